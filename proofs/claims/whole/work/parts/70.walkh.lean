/-! AM does what the functions say. -/
set_option maxRecDepth 100000 in
theorem t_m_there_4 {S : Nat × (Nat → Int32)} (N : Nat) : ∀ (n : Nat) (x1 : Int32) (x2 : Int32) (M : Mem) (r : Int32), f_m_there_4 N n x1 x2 M = some r → am_Y S 2 0 0 am_M200 4 [(0, .ref 129), (1, .int x1), (2, .int x2)] [] (hp M) (some (.int r)) (hp M) := by
  intro n
  induction n with
  | zero =>
    intro x1 x2 M r h
    cases h
  | succ n ih =>
    intro x1 x2 M r h
    rw [f_m_there_4] at h
    refine am_Y.run (k := 5) (pc' := 11) (lv' := [(0, .ref 129), (1, .int x1), (2, .int x2)]) (st' := [.int (gi M 130 0), .int x2]) (h' := hp M) rfl ?_
    refine am_Y.br (c := (gi M 130 0) ≤ x2) _ (t := 38) (u := 14) (lv' := [(0, .ref 129), (1, .int x1), (2, .int x2)]) (st' := []) (h' := hp M) rfl (fun hc => ?_) (fun hc => ?_)
    · replace h := (if_pos hc).symm.trans h
      refine am_Y.run (k := 1) (pc' := 39) (lv' := [(0, .ref 129), (1, .int x1), (2, .int x2)]) (st' := [.int x1]) (h' := hp M) rfl ?_
      obtain rfl := Option.some.inj h
      exact am_Y.ret rfl
    · replace h := (if_neg hc).symm.trans h
      refine am_Y.run (k := 3) (pc' := 17) (lv' := [(0, .ref 129), (1, .int x1), (2, .int x2)]) (st' := [.int x2, .ref 129, .int x1]) (h' := hp M) rfl ?_
      obtain ⟨q1, e_q1, h⟩ := Option.bind_eq_some_iff.mp h
      refine am_Y.call0 (M' := am_M128) (as := [.ref 129, .int x2]) (rest := [.int x1]) (d' := 1) rfl (by omega) rfl rfl (t_m_isThere x2 M q1 e_q1) ?_
      refine am_Y.br (c := q1 = (0 : Int32)) _ (t := 29) (u := 23) (lv' := [(0, .ref 129), (1, .int x1), (2, .int x2)]) (st' := [.int x1]) (h' := hp M) rfl (fun hc => ?_) (fun hc => ?_)
      · replace h := (if_pos hc).symm.trans h
        refine am_Y.run (k := 5) (pc' := 4) (lv' := [(2, .int (x2 + (1 : Int32))), (1, .int (x1 ||| (0 : Int32))), (0, .ref 129)]) (st' := []) (h' := hp M) rfl ?_
        refine am_Y.weak (lv2 := [(0, .ref 129), (1, .int (x1 ||| (0 : Int32))), (2, .int (x2 + (1 : Int32)))]) rfl rfl ⟨rfl, rfl, rfl, trivial⟩ ?_
        exact ih (x1 ||| (0 : Int32)) (x2 + (1 : Int32)) M _ h
      · replace h := (if_neg hc).symm.trans h
        refine am_Y.run (k := 8) (pc' := 4) (lv' := [(2, .int (x2 + (1 : Int32))), (1, .int (x1 ||| ((1 : Int32) <<< (x2 &&& 31)))), (0, .ref 129)]) (st' := []) (h' := hp M) rfl ?_
        refine am_Y.weak (lv2 := [(0, .ref 129), (1, .int (x1 ||| ((1 : Int32) <<< (x2 &&& 31)))), (2, .int (x2 + (1 : Int32)))]) rfl rfl ⟨rfl, rfl, rfl, trivial⟩ ?_
        exact ih (x1 ||| ((1 : Int32) <<< (x2 &&& 31))) (x2 + (1 : Int32)) M _ h
set_option maxRecDepth 100000 in
theorem t_m_there {S : Nat × (Nat → Int32)} (N : Nat) (M : Mem) (r : Int32) (h : f_m_there N M = some r) : am_Y S 2 0 0 am_M200 0 [(0, .ref 129)] [] (hp M) (some (.int r)) (hp M) := by
  rw [f_m_there] at h
  refine am_Y.run (k := 4) (pc' := 4) (lv' := [(2, .int (0 : Int32)), (1, .int (0 : Int32)), (0, .ref 129)]) (st' := []) (h' := hp M) rfl ?_
  refine am_Y.weak (lv2 := [(0, .ref 129), (1, .int (0 : Int32)), (2, .int (0 : Int32))]) rfl rfl ⟨rfl, rfl, rfl, trivial⟩ ?_
  exact t_m_there_4 N N (0 : Int32) (0 : Int32) M _ h
set_option maxRecDepth 100000 in
theorem t_m_bits_4 {S : Nat × (Nat → Int32)} (N : Nat) : ∀ (n : Nat) (x0 : Int32) (x1 : Int32) (x2 : Int32) (M : Mem) (r : Int32), f_m_bits_4 N n x0 x1 x2 M = some r → am_Y S 0 0 0 am_M177 4 [(0, .int x0), (1, .int x1), (2, .int x2)] [] (hp M) (some (.int r)) (hp M) := by
  intro n
  induction n with
  | zero =>
    intro x0 x1 x2 M r h
    cases h
  | succ n ih =>
    intro x0 x1 x2 M r h
    rw [f_m_bits_4] at h
    refine am_Y.run (k := 2) (pc' := 7) (lv' := [(0, .int x0), (1, .int x1), (2, .int x2)]) (st' := [.int (8 : Int32), .int x2]) (h' := hp M) rfl ?_
    refine am_Y.br (c := (8 : Int32) ≤ x2) _ (t := 24) (u := 10) (lv' := [(0, .int x0), (1, .int x1), (2, .int x2)]) (st' := []) (h' := hp M) rfl (fun hc => ?_) (fun hc => ?_)
    · replace h := (if_pos hc).symm.trans h
      refine am_Y.run (k := 1) (pc' := 25) (lv' := [(0, .int x0), (1, .int x1), (2, .int x2)]) (st' := [.int x1]) (h' := hp M) rfl ?_
      obtain rfl := Option.some.inj h
      exact am_Y.ret rfl
    · replace h := (if_neg hc).symm.trans h
      refine am_Y.run (k := 10) (pc' := 4) (lv' := [(2, .int (x2 + (1 : Int32))), (1, .int (x1 + ((x0 >>> (x2 &&& 31)) &&& (1 : Int32)))), (0, .int x0)]) (st' := []) (h' := hp M) rfl ?_
      refine am_Y.weak (lv2 := [(0, .int x0), (1, .int (x1 + ((x0 >>> (x2 &&& 31)) &&& (1 : Int32)))), (2, .int (x2 + (1 : Int32)))]) rfl rfl ⟨rfl, rfl, rfl, trivial⟩ ?_
      exact ih x0 (x1 + ((x0 >>> (x2 &&& 31)) &&& (1 : Int32))) (x2 + (1 : Int32)) M _ h
set_option maxRecDepth 100000 in
theorem t_m_bits {S : Nat × (Nat → Int32)} (N : Nat) (x0 : Int32) (M : Mem) (r : Int32) (h : f_m_bits N x0 M = some r) : am_Y S 0 0 0 am_M177 0 [(0, .int x0)] [] (hp M) (some (.int r)) (hp M) := by
  rw [f_m_bits] at h
  refine am_Y.run (k := 4) (pc' := 4) (lv' := [(2, .int (0 : Int32)), (1, .int (0 : Int32)), (0, .int x0)]) (st' := []) (h' := hp M) rfl ?_
  refine am_Y.weak (lv2 := [(0, .int x0), (1, .int (0 : Int32)), (2, .int (0 : Int32))]) rfl rfl ⟨rfl, rfl, rfl, trivial⟩ ?_
  exact t_m_bits_4 N N x0 (0 : Int32) (0 : Int32) M _ h
set_option maxRecDepth 100000 in
theorem t_m_startHolding {S : Nat × (Nat → Int32)} (M : Mem) (M' : Mem) (h : f_m_startHolding M = some M') : am_Y S 0 0 0 am_M204 0 [(0, .ref 129)] [] (hp M) none (hp M') := by
  rw [f_m_startHolding] at h
  refine am_Y.run (k := 3) (pc' := 5) (lv' := [(0, .ref 129)]) (st' := []) (h' := hp (si M 129 28 (-1 : Int32))) rfl ?_
  obtain ⟨q1, e_q1, h⟩ := Option.bind_eq_some_iff.mp h
  rw [Option.some.inj e_q1]
  refine am_Y.run (k := 3) (pc' := 10) (lv' := [(0, .ref 129)]) (st' := []) (h' := hp (si q1 129 29 (0 : Int32))) rfl ?_
  obtain ⟨q2, e_q2, h⟩ := Option.bind_eq_some_iff.mp h
  rw [Option.some.inj e_q2]
  obtain rfl := Option.some.inj h
  exact am_Y.ret rfl
set_option maxRecDepth 100000 in
theorem t_m_fallsOf {S : Nat × (Nat → Int32)} (x1 : Int32) (M : Mem) (r : Int32) (h : f_m_fallsOf x1 M = some r) : am_Y S 0 0 0 am_M160 0 [(0, .ref 129), (1, .int x1)] [] (hp M) (some (.int r)) (hp M) := by
  rw [f_m_fallsOf] at h
  refine am_Y.run (k := 5) (pc' := 8) (lv' := [(0, .ref 129), (1, .int x1)]) (st' := [.int ((68 : Int32) + x1), .ref 130]) (h' := hp M) rfl ?_
  obtain ⟨g, h⟩ := am_itg h
  refine am_Y.iald (a := 125) (n := 3826) rfl rfl g ?_
  refine am_Y.run (k := 4) (pc' := 15) (lv' := [(0, .ref 129), (1, .int x1)]) (st' := [.int (((gi M 130 (((68 : Int32) + x1)).toNatClampNeg) - (gi M 130 (((68 : Int32) + x1)).toNatClampNeg) / (256 : Int32) * (256 : Int32)) - (1 : Int32))]) (h' := hp M) rfl ?_
  obtain rfl := Option.some.inj h
  exact am_Y.ret rfl
set_option maxRecDepth 100000 in
theorem t_m_whoOf {S : Nat × (Nat → Int32)} (x1 : Int32) (M : Mem) (r : Int32) (h : f_m_whoOf x1 M = some r) : am_Y S 0 0 0 am_M158 0 [(0, .ref 129), (1, .int x1)] [] (hp M) (some (.int r)) (hp M) := by
  rw [f_m_whoOf] at h
  refine am_Y.run (k := 5) (pc' := 8) (lv' := [(0, .ref 129), (1, .int x1)]) (st' := [.int ((68 : Int32) + x1), .ref 130]) (h' := hp M) rfl ?_
  obtain ⟨g, h⟩ := am_itg h
  refine am_Y.iald (a := 125) (n := 3826) rfl rfl g ?_
  refine am_Y.run (k := 4) (pc' := 16) (lv' := [(0, .ref 129), (1, .int x1)]) (st' := [.int (((gi M 130 (((68 : Int32) + x1)).toNatClampNeg) / (2048 : Int32)) - ((gi M 130 (((68 : Int32) + x1)).toNatClampNeg) / (2048 : Int32)) / (16 : Int32) * (16 : Int32))]) (h' := hp M) rfl ?_
  obtain rfl := Option.some.inj h
  exact am_Y.ret rfl
set_option maxRecDepth 100000 in
theorem t_m_consider_26 {S : Nat × (Nat → Int32)} (x1 : Int32) (x2 : Int32) (M : Mem) (M' : Mem) (h : f_m_consider_26 x1 x2 M = some M') : am_Y S 0 0 0 am_M205 26 [(0, .ref 129), (1, .int x1), (2, .int x2)] [] (hp M) none (hp M') := by
  rw [f_m_consider_26] at h
  refine am_Y.run (k := 3) (pc' := 31) (lv' := [(0, .ref 129), (1, .int x1), (2, .int x2)]) (st' := []) (h' := hp (si M 129 28 x2)) rfl ?_
  obtain ⟨q2, e_q2, h⟩ := Option.bind_eq_some_iff.mp h
  rw [Option.some.inj e_q2]
  refine am_Y.run (k := 2) (pc' := 34) (lv' := [(0, .ref 129), (1, .int x1), (2, .int x2)]) (st' := [.int (8 : Int32), .int x1]) (h' := hp q2) rfl ?_
  refine am_Y.br (c := x1 = (8 : Int32)) _ (t := 49) (u := 37) (lv' := [(0, .ref 129), (1, .int x1), (2, .int x2)]) (st' := []) (h' := hp q2) rfl (fun hc => ?_) (fun hc => ?_)
  · replace h := (if_pos hc).symm.trans h
    obtain rfl := Option.some.inj h
    exact am_Y.ret rfl
  · replace h := (if_neg hc).symm.trans h
    refine am_Y.run (k := 8) (pc' := 49) (lv' := [(0, .ref 129), (1, .int x1), (2, .int x2)]) (st' := []) (h' := hp (si q2 129 29 ((gi q2 129 29) ||| ((1 : Int32) <<< (x1 &&& 31))))) rfl ?_
    obtain ⟨q3, e_q3, h⟩ := Option.bind_eq_some_iff.mp h
    rw [Option.some.inj e_q3]
    obtain rfl := Option.some.inj h
    exact am_Y.ret rfl
set_option maxRecDepth 100000 in
theorem t_m_consider {S : Nat × (Nat → Int32)} (x1 : Int32) (x2 : Int32) (M : Mem) (M' : Mem) (h : f_m_consider x1 x2 M = some M') : am_Y S 0 0 0 am_M205 0 [(0, .ref 129), (1, .int x1), (2, .int x2)] [] (hp M) none (hp M') := by
  rw [f_m_consider] at h
  refine am_Y.run (k := 1) (pc' := 1) (lv' := [(0, .ref 129), (1, .int x1), (2, .int x2)]) (st' := [.int x2]) (h' := hp M) rfl ?_
  refine am_Y.br (c := x2 < (0 : Int32)) _ (t := 12) (u := 4) (lv' := [(0, .ref 129), (1, .int x1), (2, .int x2)]) (st' := []) (h' := hp M) rfl (fun hc => ?_) (fun hc => ?_)
  · replace h := (if_pos hc).symm.trans h
    obtain rfl := Option.some.inj h
    exact am_Y.ret rfl
  · replace h := (if_neg hc).symm.trans h
    refine am_Y.run (k := 3) (pc' := 9) (lv' := [(0, .ref 129), (1, .int x1), (2, .int x2)]) (st' := [.int (gi M 129 28), .int x2]) (h' := hp M) rfl ?_
    refine am_Y.br (c := (gi M 129 28) ≤ x2) _ (t := 13) (u := 12) (lv' := [(0, .ref 129), (1, .int x1), (2, .int x2)]) (st' := []) (h' := hp M) rfl (fun hc => ?_) (fun hc => ?_)
    · replace h := (if_pos hc).symm.trans h
      refine am_Y.run (k := 3) (pc' := 18) (lv' := [(0, .ref 129), (1, .int x1), (2, .int x2)]) (st' := [.int (gi M 129 28), .int x2]) (h' := hp M) rfl ?_
      refine am_Y.br (c := x2 ≤ (gi M 129 28)) _ (t := 26) (u := 21) (lv' := [(0, .ref 129), (1, .int x1), (2, .int x2)]) (st' := []) (h' := hp M) rfl (fun hc => ?_) (fun hc => ?_)
      · replace h := (if_pos hc).symm.trans h
        refine am_Y.weak (lv2 := [(0, .ref 129), (1, .int x1), (2, .int x2)]) rfl rfl ⟨rfl, rfl, rfl, trivial⟩ ?_
        exact t_m_consider_26 x1 x2 M _ h
      · replace h := (if_neg hc).symm.trans h
        refine am_Y.run (k := 3) (pc' := 26) (lv' := [(0, .ref 129), (1, .int x1), (2, .int x2)]) (st' := []) (h' := hp (si M 129 29 (0 : Int32))) rfl ?_
        obtain ⟨q1, e_q1, h⟩ := Option.bind_eq_some_iff.mp h
        rw [Option.some.inj e_q1]
        refine am_Y.weak (lv2 := [(0, .ref 129), (1, .int x1), (2, .int x2)]) rfl rfl ⟨rfl, rfl, rfl, trivial⟩ ?_
        exact t_m_consider_26 x1 x2 q1 _ h
    · replace h := (if_neg hc).symm.trans h
      obtain rfl := Option.some.inj h
      exact am_Y.ret rfl
set_option maxRecDepth 100000 in
theorem t_m_holdBy_6 {S : Nat × (Nat → Int32)} (N : Nat) : ∀ (n : Nat) (x1 : Int32) (x2 : Int32) (M : Mem) (r : Int32) (M' : Mem), f_m_holdBy_6 N n x1 x2 M = some (r, M') → am_Y S 1 0 0 am_M196 6 [(0, .ref 129), (1, .int x1), (2, .int x2)] [] (hp M) (some (.int r)) (hp M') := by
  intro n
  induction n with
  | zero =>
    intro x1 x2 M r M' h
    cases h
  | succ n ih =>
    intro x1 x2 M r M' h
    rw [f_m_holdBy_6] at h
    refine am_Y.run (k := 5) (pc' := 14) (lv' := [(0, .ref 129), (1, .int x1), (2, .int x2)]) (st' := [.int (gi M 130 8), .int x2]) (h' := hp M) rfl ?_
    refine am_Y.br (c := (gi M 130 8) ≤ x2) _ (t := 46) (u := 17) (lv' := [(0, .ref 129), (1, .int x1), (2, .int x2)]) (st' := []) (h' := hp M) rfl (fun hc => ?_) (fun hc => ?_)
    · replace h := (if_pos hc).symm.trans h
      refine am_Y.run (k := 2) (pc' := 50) (lv' := [(0, .ref 129), (1, .int x1), (2, .int x2)]) (st' := [.int (gi M 129 29)]) (h' := hp M) rfl ?_
      obtain ⟨rfl, rfl⟩ := Prod.mk.inj (Option.some.inj h)
      exact am_Y.ret rfl
    · replace h := (if_neg hc).symm.trans h
      refine am_Y.run (k := 2) (pc' := 19) (lv' := [(0, .ref 129), (1, .int x1), (2, .int x2)]) (st' := [.int x2, .ref 129]) (h' := hp M) rfl ?_
      obtain ⟨q2, e_q2, h⟩ := Option.bind_eq_some_iff.mp h
      refine am_Y.call0 (M' := am_M160) (as := [.ref 129, .int x2]) (rest := []) (d' := 0) rfl (by omega) rfl rfl (t_m_fallsOf x2 M q2 e_q2) ?_
      refine am_Y.run (k := 1) (pc' := 23) (lv' := [(0, .ref 129), (1, .int x1), (2, .int x2)]) (st' := [.int x1, .int q2]) (h' := hp M) rfl ?_
      refine am_Y.br (c := x1 < q2) _ (t := 40) (u := 26) (lv' := [(0, .ref 129), (1, .int x1), (2, .int x2)]) (st' := []) (h' := hp M) rfl (fun hc => ?_) (fun hc => ?_)
      · replace h := (if_pos hc).symm.trans h
        refine am_Y.run (k := 2) (pc' := 6) (lv' := [(2, .int (x2 + (1 : Int32))), (0, .ref 129), (1, .int x1)]) (st' := []) (h' := hp M) rfl ?_
        refine am_Y.weak (lv2 := [(0, .ref 129), (1, .int x1), (2, .int (x2 + (1 : Int32)))]) rfl rfl ⟨rfl, rfl, rfl, trivial⟩ ?_
        exact ih x1 (x2 + (1 : Int32)) M _ _ h
      · replace h := (if_neg hc).symm.trans h
        refine am_Y.run (k := 3) (pc' := 29) (lv' := [(0, .ref 129), (1, .int x1), (2, .int x2)]) (st' := [.int x2, .ref 129, .ref 129]) (h' := hp M) rfl ?_
        obtain ⟨q3, e_q3, h⟩ := Option.bind_eq_some_iff.mp h
        refine am_Y.call0 (M' := am_M158) (as := [.ref 129, .int x2]) (rest := [.ref 129]) (d' := 0) rfl (by omega) rfl rfl (t_m_whoOf x2 M q3 e_q3) ?_
        refine am_Y.run (k := 2) (pc' := 34) (lv' := [(0, .ref 129), (1, .int x1), (2, .int x2)]) (st' := [.int x2, .ref 129, .int q3, .ref 129]) (h' := hp M) rfl ?_
        obtain ⟨q4, e_q4, h⟩ := Option.bind_eq_some_iff.mp h
        refine am_Y.call0 (M' := am_M160) (as := [.ref 129, .int x2]) (rest := [.int q3, .ref 129]) (d' := 0) rfl (by omega) rfl rfl (t_m_fallsOf x2 M q4 e_q4) ?_
        obtain ⟨q5, e_q5, h⟩ := Option.bind_eq_some_iff.mp h
        refine am_Y.call0 (M' := am_M205) (as := [.ref 129, .int q3, .int q4]) (rest := []) (d' := 0) rfl (by omega) rfl rfl (t_m_consider q3 q4 M q5 e_q5) ?_
        refine am_Y.run (k := 2) (pc' := 6) (lv' := [(2, .int (x2 + (1 : Int32))), (0, .ref 129), (1, .int x1)]) (st' := []) (h' := hp q5) rfl ?_
        refine am_Y.weak (lv2 := [(0, .ref 129), (1, .int x1), (2, .int (x2 + (1 : Int32)))]) rfl rfl ⟨rfl, rfl, rfl, trivial⟩ ?_
        exact ih x1 (x2 + (1 : Int32)) q5 _ _ h
set_option maxRecDepth 100000 in
theorem t_m_holdBy {S : Nat × (Nat → Int32)} (N : Nat) (x1 : Int32) (M : Mem) (r : Int32) (M' : Mem) (h : f_m_holdBy N x1 M = some (r, M')) : am_Y S 1 0 0 am_M196 0 [(0, .ref 129), (1, .int x1)] [] (hp M) (some (.int r)) (hp M') := by
  rw [f_m_holdBy] at h
  refine am_Y.run (k := 1) (pc' := 1) (lv' := [(0, .ref 129), (1, .int x1)]) (st' := [.ref 129]) (h' := hp M) rfl ?_
  obtain ⟨q1, e_q1, h⟩ := Option.bind_eq_some_iff.mp h
  refine am_Y.call0 (M' := am_M204) (as := [.ref 129]) (rest := []) (d' := 0) rfl (by omega) rfl rfl (t_m_startHolding M q1 e_q1) ?_
  refine am_Y.run (k := 2) (pc' := 6) (lv' := [(2, .int (0 : Int32)), (0, .ref 129), (1, .int x1)]) (st' := []) (h' := hp q1) rfl ?_
  refine am_Y.weak (lv2 := [(0, .ref 129), (1, .int x1), (2, .int (0 : Int32))]) rfl rfl ⟨rfl, rfl, rfl, trivial⟩ ?_
  exact t_m_holdBy_6 N N x1 (0 : Int32) q1 _ _ h
set_option maxRecDepth 100000 in
theorem t_m_holdNow {S : Nat × (Nat → Int32)} (N : Nat) (M : Mem) (r : Int32) (M' : Mem) (h : f_m_holdNow N M = some (r, M')) : am_Y S 2 0 0 am_M150 0 [(0, .ref 129)] [] (hp M) (some (.int r)) (hp M') := by
  rw [f_m_holdNow] at h
  refine am_Y.run (k := 7) (pc' := 9) (lv' := [(0, .ref 129)]) (st' := [.int ((gi M 130 2) - (1 : Int32)), .ref 129]) (h' := hp M) rfl ?_
  obtain ⟨q1, e_q1, h⟩ := Option.bind_eq_some_iff.mp h
  refine am_Y.call0 (M' := am_M196) (as := [.ref 129, .int ((gi M 130 2) - (1 : Int32))]) (rest := []) (d' := 1) rfl (by omega) rfl rfl (t_m_holdBy N ((gi M 130 2) - (1 : Int32)) M q1.1 q1.2 e_q1) ?_
  obtain ⟨rfl, rfl⟩ := Prod.mk.inj (Option.some.inj h)
  exact am_Y.ret rfl
set_option maxRecDepth 100000 in
theorem t_m_clauseOf_2 {S : Nat × (Nat → Int32)} (N : Nat) : ∀ (n : Nat) (x1 : Int32) (x2 : Int32) (M : Mem) (r : Int32), f_m_clauseOf_2 N n x1 x2 M = some r → am_Y S 0 0 0 am_M247 2 [(0, .ref 129), (1, .int x1), (2, .int x2)] [] (hp M) (some (.int r)) (hp M) := by
  intro n
  induction n with
  | zero =>
    intro x1 x2 M r h
    cases h
  | succ n ih =>
    intro x1 x2 M r h
    rw [f_m_clauseOf_2] at h
    refine am_Y.run (k := 4) (pc' := 9) (lv' := [(0, .ref 129), (1, .int x1), (2, .int x2)]) (st' := [.int (gi M 130 6)]) (h' := hp M) rfl ?_
    refine am_Y.br (c := (gi M 130 6) < (0 : Int32)) _ (t := 66) (u := 12) (lv' := [(0, .ref 129), (1, .int x1), (2, .int x2)]) (st' := []) (h' := hp M) rfl (fun hc => ?_) (fun hc => ?_)
    · replace h := (if_pos hc).symm.trans h
      refine am_Y.run (k := 1) (pc' := 67) (lv' := [(0, .ref 129), (1, .int x1), (2, .int x2)]) (st' := [.int (-1 : Int32)]) (h' := hp M) rfl ?_
      obtain rfl := Option.some.inj h
      exact am_Y.ret rfl
    · replace h := (if_neg hc).symm.trans h
      refine am_Y.run (k := 9) (pc' := 28) (lv' := [(0, .ref 129), (1, .int x1), (2, .int x2)]) (st' := [.int ((705 : Int32) * (gi M 130 6)), .ref 132, .int x2]) (h' := hp M) rfl ?_
      obtain ⟨g, h⟩ := am_itg h
      refine am_Y.iald (a := 127) (n := 2820) rfl rfl g ?_
      refine am_Y.br (c := (gi M 132 (((705 : Int32) * (gi M 130 6))).toNatClampNeg) ≤ x2) _ (t := 66) (u := 32) (lv' := [(0, .ref 129), (1, .int x1), (2, .int x2)]) (st' := []) (h' := hp M) rfl (fun hc => ?_) (fun hc => ?_)
      · replace h := (if_pos hc).symm.trans h
        refine am_Y.run (k := 1) (pc' := 67) (lv' := [(0, .ref 129), (1, .int x1), (2, .int x2)]) (st' := [.int (-1 : Int32)]) (h' := hp M) rfl ?_
        obtain rfl := Option.some.inj h
        exact am_Y.ret rfl
      · replace h := (if_neg hc).symm.trans h
        refine am_Y.run (k := 14) (pc' := 53) (lv' := [(0, .ref 129), (1, .int x1), (2, .int x2)]) (st' := [.int ((((705 : Int32) * (gi M 130 6)) + (1 : Int32)) + ((4 : Int32) * x2)), .ref 132]) (h' := hp M) rfl ?_
        obtain ⟨g, h⟩ := am_itg h
        refine am_Y.iald (a := 127) (n := 2820) rfl rfl g ?_
        refine am_Y.run (k := 1) (pc' := 55) (lv' := [(0, .ref 129), (1, .int x1), (2, .int x2)]) (st' := [.int x1, .int (gi M 132 (((((705 : Int32) * (gi M 130 6)) + (1 : Int32)) + ((4 : Int32) * x2))).toNatClampNeg)]) (h' := hp M) rfl ?_
        refine am_Y.br (c := (gi M 132 (((((705 : Int32) * (gi M 130 6)) + (1 : Int32)) + ((4 : Int32) * x2))).toNatClampNeg) = x1) _ (t := 58) (u := 60) (lv' := [(0, .ref 129), (1, .int x1), (2, .int x2)]) (st' := []) (h' := hp M) rfl (fun hc => ?_) (fun hc => ?_)
        · replace h := (if_pos hc).symm.trans h
          refine am_Y.run (k := 1) (pc' := 59) (lv' := [(0, .ref 129), (1, .int x1), (2, .int x2)]) (st' := [.int x2]) (h' := hp M) rfl ?_
          obtain rfl := Option.some.inj h
          exact am_Y.ret rfl
        · replace h := (if_neg hc).symm.trans h
          refine am_Y.run (k := 2) (pc' := 2) (lv' := [(2, .int (x2 + (1 : Int32))), (0, .ref 129), (1, .int x1)]) (st' := []) (h' := hp M) rfl ?_
          refine am_Y.weak (lv2 := [(0, .ref 129), (1, .int x1), (2, .int (x2 + (1 : Int32)))]) rfl rfl ⟨rfl, rfl, rfl, trivial⟩ ?_
          exact ih x1 (x2 + (1 : Int32)) M _ h
set_option maxRecDepth 100000 in
theorem t_m_clauseOf {S : Nat × (Nat → Int32)} (N : Nat) (x1 : Int32) (M : Mem) (r : Int32) (h : f_m_clauseOf N x1 M = some r) : am_Y S 0 0 0 am_M247 0 [(0, .ref 129), (1, .int x1)] [] (hp M) (some (.int r)) (hp M) := by
  rw [f_m_clauseOf] at h
  refine am_Y.run (k := 2) (pc' := 2) (lv' := [(2, .int (0 : Int32)), (0, .ref 129), (1, .int x1)]) (st' := []) (h' := hp M) rfl ?_
  refine am_Y.weak (lv2 := [(0, .ref 129), (1, .int x1), (2, .int (0 : Int32))]) rfl rfl ⟨rfl, rfl, rfl, trivial⟩ ?_
  exact t_m_clauseOf_2 N N x1 (0 : Int32) M _ h
set_option maxRecDepth 100000 in
theorem t_m_choose_15 {S : Nat × (Nat → Int32)} (N : Nat) : ∀ (n : Nat) (x3 : Int32) (x4 : Int32) (x5 : Int32) (x6 : Int32) (M : Mem) (r : Int32) (M' : Mem), f_m_choose_15 N n x3 x4 x5 x6 M = some (r, M') → am_Y S 0 0 0 am_M295 15 [(0, .ref 129), (3, .int x3), (4, .int x4), (5, .int x5), (6, .int x6)] [] (hp M) (some (.int r)) (hp M') := by
  intro n
  induction n with
  | zero =>
    intro x3 x4 x5 x6 M r M' h
    cases h
  | succ n ih =>
    intro x3 x4 x5 x6 M r M' h
    rw [f_m_choose_15] at h
    refine am_Y.run (k := 1) (pc' := 17) (lv' := [(0, .ref 129), (3, .int x3), (4, .int x4), (5, .int x5), (6, .int x6)]) (st' := [.int x6]) (h' := hp M) rfl ?_
    refine am_Y.br (c := x6 < (0 : Int32)) _ (t := 78) (u := 20) (lv' := [(0, .ref 129), (3, .int x3), (4, .int x4), (5, .int x5), (6, .int x6)]) (st' := []) (h' := hp M) rfl (fun hc => ?_) (fun hc => ?_)
    · replace h := (if_pos hc).symm.trans h
      refine am_Y.run (k := 10) (pc' := 95) (lv' := [(0, .ref 129), (3, .int x3), (4, .int x4), (5, .int x5), (6, .int x6)]) (st' := [.int ((x4 + (1 : Int32)) + x5), .ref 139, .int x4, .ref 139]) (h' := hp M) rfl ?_
      obtain ⟨g, h⟩ := am_itg h
      refine am_Y.lald (a := 134) (n := 330) rfl rfl g ?_
      obtain ⟨g, h⟩ := am_itg h
      refine am_Y.last (a := 134) (n := 330) rfl rfl g ?_
      refine am_Y.run (k := 0) (pc' := _) (lv' := [(0, .ref 129), (3, .int x3), (4, .int x4), (5, .int x5), (6, .int x6)]) (st' := []) (h' := hp (sj M 139 (x4).toNatClampNeg (gj M 139 (((x4 + (1 : Int32)) + x5)).toNatClampNeg))) rfl ?_
      obtain ⟨q1, e_q1, h⟩ := Option.bind_eq_some_iff.mp h
      rw [Option.some.inj e_q1]
      refine am_Y.run (k := 3) (pc' := 101) (lv' := [(0, .ref 129), (3, .int x3), (4, .int x4), (5, .int x5), (6, .int x6)]) (st' := [.int (x4 + (1 : Int32))]) (h' := hp q1) rfl ?_
      obtain ⟨rfl, rfl⟩ := Prod.mk.inj (Option.some.inj h)
      exact am_Y.ret rfl
    · replace h := (if_neg hc).symm.trans h
      refine am_Y.run (k := 3) (pc' := 26) (lv' := [(0, .ref 129), (3, .int x3), (4, .int x4), (5, .int x5), (6, .int x6)]) (st' := [.int x4, .ref 139]) (h' := hp M) rfl ?_
      obtain ⟨g, h⟩ := am_itg h
      refine am_Y.lald (a := 134) (n := 330) rfl rfl g ?_
      refine am_Y.run (k := 7) (pc' := 37) (lv' := [(0, .ref 129), (3, .int x3), (4, .int x4), (5, .int x5), (6, .int x6)]) (st' := [.int (x3 + ((2 : Int32) * x6)), .ref 132, .long (gj M 139 (x4).toNatClampNeg)]) (h' := hp M) rfl ?_
      obtain ⟨g, h⟩ := am_itg h
      refine am_Y.iald (a := 127) (n := 2820) rfl rfl g ?_
      refine am_Y.run (k := 2) (pc' := 40) (lv' := [(0, .ref 129), (3, .int x3), (4, .int x4), (5, .int x5), (6, .int x6)]) (st' := [.int (lg_cmp (gj M 139 (x4).toNatClampNeg) (Int32.toInt64 (gi M 132 ((x3 + ((2 : Int32) * x6))).toNatClampNeg)))]) (h' := hp M) rfl ?_
      refine am_Y.br (c := (lg_cmp (gj M 139 (x4).toNatClampNeg) (Int32.toInt64 (gi M 132 ((x3 + ((2 : Int32) * x6))).toNatClampNeg))) < (0 : Int32)) _ (t := 72) (u := 43) (lv' := [(0, .ref 129), (3, .int x3), (4, .int x4), (5, .int x5), (6, .int x6)]) (st' := []) (h' := hp M) rfl (fun hc => ?_) (fun hc => ?_)
      · replace h := (if_pos hc).symm.trans h
        refine am_Y.run (k := 2) (pc' := 15) (lv' := [(6, .int (x6 + (-1 : Int32))), (0, .ref 129), (3, .int x3), (4, .int x4), (5, .int x5)]) (st' := []) (h' := hp M) rfl ?_
        refine am_Y.weak (lv2 := [(0, .ref 129), (3, .int x3), (4, .int x4), (5, .int x5), (6, .int (x6 + (-1 : Int32)))]) rfl rfl ⟨rfl, rfl, rfl, rfl, rfl, trivial⟩ ?_
        exact ih x3 x4 x5 (x6 + (-1 : Int32)) M _ _ h
      · replace h := (if_neg hc).symm.trans h
        refine am_Y.run (k := 3) (pc' := 49) (lv' := [(0, .ref 129), (3, .int x3), (4, .int x4), (5, .int x5), (6, .int x6)]) (st' := [.int x4, .ref 139]) (h' := hp M) rfl ?_
        obtain ⟨g, h⟩ := am_itg h
        refine am_Y.lald (a := 134) (n := 330) rfl rfl g ?_
        refine am_Y.run (k := 9) (pc' := 62) (lv' := [(0, .ref 129), (3, .int x3), (4, .int x4), (5, .int x5), (6, .int x6)]) (st' := [.int ((x3 + ((2 : Int32) * x6)) + (1 : Int32)), .ref 132, .long (gj M 139 (x4).toNatClampNeg)]) (h' := hp M) rfl ?_
        obtain ⟨g, h⟩ := am_itg h
        refine am_Y.iald (a := 127) (n := 2820) rfl rfl g ?_
        refine am_Y.run (k := 2) (pc' := 65) (lv' := [(0, .ref 129), (3, .int x3), (4, .int x4), (5, .int x5), (6, .int x6)]) (st' := [.int (lg_cmp (gj M 139 (x4).toNatClampNeg) (Int32.toInt64 (gi M 132 (((x3 + ((2 : Int32) * x6)) + (1 : Int32))).toNatClampNeg)))]) (h' := hp M) rfl ?_
        refine am_Y.br (c := (0 : Int32) < (lg_cmp (gj M 139 (x4).toNatClampNeg) (Int32.toInt64 (gi M 132 (((x3 + ((2 : Int32) * x6)) + (1 : Int32))).toNatClampNeg)))) _ (t := 72) (u := 68) (lv' := [(0, .ref 129), (3, .int x3), (4, .int x4), (5, .int x5), (6, .int x6)]) (st' := []) (h' := hp M) rfl (fun hc => ?_) (fun hc => ?_)
        · replace h := (if_pos hc).symm.trans h
          refine am_Y.run (k := 2) (pc' := 15) (lv' := [(6, .int (x6 + (-1 : Int32))), (0, .ref 129), (3, .int x3), (4, .int x4), (5, .int x5)]) (st' := []) (h' := hp M) rfl ?_
          refine am_Y.weak (lv2 := [(0, .ref 129), (3, .int x3), (4, .int x4), (5, .int x5), (6, .int (x6 + (-1 : Int32)))]) rfl rfl ⟨rfl, rfl, rfl, rfl, rfl, trivial⟩ ?_
          exact ih x3 x4 x5 (x6 + (-1 : Int32)) M _ _ h
        · replace h := (if_neg hc).symm.trans h
          refine am_Y.run (k := 4) (pc' := 15) (lv' := [(6, .int (x6 + (-1 : Int32))), (5, .int x6), (0, .ref 129), (3, .int x3), (4, .int x4)]) (st' := []) (h' := hp M) rfl ?_
          refine am_Y.weak (lv2 := [(0, .ref 129), (3, .int x3), (4, .int x4), (5, .int x6), (6, .int (x6 + (-1 : Int32)))]) rfl rfl ⟨rfl, rfl, rfl, rfl, rfl, trivial⟩ ?_
          exact ih x3 x4 x6 (x6 + (-1 : Int32)) M _ _ h
set_option maxRecDepth 100000 in
theorem t_m_choose {S : Nat × (Nat → Int32)} (N : Nat) (x1 : Int32) (x2 : Int32) (x3 : Int32) (M : Mem) (r : Int32) (M' : Mem) (h : f_m_choose N x1 x2 x3 M = some (r, M')) : am_Y S 0 0 0 am_M295 0 [(0, .ref 129), (1, .int x1), (2, .int x2), (3, .int x3)] [] (hp M) (some (.int r)) (hp M') := by
  rw [f_m_choose] at h
  refine am_Y.run (k := 12) (pc' := 15) (lv' := [(6, .int (x2 - (1 : Int32))), (5, .int x2), (4, .int ((x1 - x2) - (2 : Int32))), (0, .ref 129), (1, .int x1), (2, .int x2), (3, .int x3)]) (st' := []) (h' := hp M) rfl ?_
  refine am_Y.weak (lv2 := [(0, .ref 129), (3, .int x3), (4, .int ((x1 - x2) - (2 : Int32))), (5, .int x2), (6, .int (x2 - (1 : Int32)))]) rfl rfl ⟨rfl, rfl, rfl, rfl, rfl, trivial⟩ ?_
  exact t_m_choose_15 N N x3 ((x1 - x2) - (2 : Int32)) x2 (x2 - (1 : Int32)) M _ _ h
set_option maxRecDepth 100000 in
theorem t_m_isAsked {S : Nat × (Nat → Int32)} (x0 : Int32) (x1 : Int64) (x3 : Int64) (M : Mem) (r : Int32) (h : f_m_isAsked x0 x1 x3 M = r) : am_Y S 0 0 0 am_M297 0 [(0, .int x0), (1, .long x1), (3, .long x3)] [] (hp M) (some (.int r)) (hp M) := by
  rw [f_m_isAsked] at h
  refine am_Y.run (k := 2) (pc' := 3) (lv' := [(0, .int x0), (1, .long x1), (3, .long x3)]) (st' := [.int (10 : Int32), .int x0]) (h' := hp M) rfl ?_
  refine am_Y.br (c := x0 = (10 : Int32)) _ (t := 6) (u := 20) (lv' := [(0, .int x0), (1, .long x1), (3, .long x3)]) (st' := []) (h' := hp M) rfl (fun hc => ?_) (fun hc => ?_)
  · replace h := (if_pos hc).symm.trans h
    refine am_Y.run (k := 3) (pc' := 9) (lv' := [(0, .int x0), (1, .long x1), (3, .long x3)]) (st' := [.int (lg_cmp x1 x3)]) (h' := hp M) rfl ?_
    refine am_Y.br (c := (0 : Int32) ≤ (lg_cmp x1 x3)) _ (t := 16) (u := 12) (lv' := [(0, .int x0), (1, .long x1), (3, .long x3)]) (st' := []) (h' := hp M) rfl (fun hc => ?_) (fun hc => ?_)
    · replace h := (if_pos hc).symm.trans h
      refine am_Y.run (k := 2) (pc' := 111) (lv' := [(0, .int x0), (1, .long x1), (3, .long x3)]) (st' := [.int (0 : Int32)]) (h' := hp M) rfl ?_
      subst h
      exact am_Y.ret rfl
    · replace h := (if_neg hc).symm.trans h
      refine am_Y.run (k := 2) (pc' := 111) (lv' := [(0, .int x0), (1, .long x1), (3, .long x3)]) (st' := [.int (1 : Int32)]) (h' := hp M) rfl ?_
      subst h
      exact am_Y.ret rfl
  · replace h := (if_neg hc).symm.trans h
    refine am_Y.run (k := 2) (pc' := 23) (lv' := [(0, .int x0), (1, .long x1), (3, .long x3)]) (st' := [.int (11 : Int32), .int x0]) (h' := hp M) rfl ?_
    refine am_Y.br (c := x0 = (11 : Int32)) _ (t := 26) (u := 40) (lv' := [(0, .int x0), (1, .long x1), (3, .long x3)]) (st' := []) (h' := hp M) rfl (fun hc => ?_) (fun hc => ?_)
    · replace h := (if_pos hc).symm.trans h
      refine am_Y.run (k := 3) (pc' := 29) (lv' := [(0, .int x0), (1, .long x1), (3, .long x3)]) (st' := [.int (lg_cmp x1 x3)]) (h' := hp M) rfl ?_
      refine am_Y.br (c := (0 : Int32) < (lg_cmp x1 x3)) _ (t := 36) (u := 32) (lv' := [(0, .int x0), (1, .long x1), (3, .long x3)]) (st' := []) (h' := hp M) rfl (fun hc => ?_) (fun hc => ?_)
      · replace h := (if_pos hc).symm.trans h
        refine am_Y.run (k := 2) (pc' := 111) (lv' := [(0, .int x0), (1, .long x1), (3, .long x3)]) (st' := [.int (0 : Int32)]) (h' := hp M) rfl ?_
        subst h
        exact am_Y.ret rfl
      · replace h := (if_neg hc).symm.trans h
        refine am_Y.run (k := 2) (pc' := 111) (lv' := [(0, .int x0), (1, .long x1), (3, .long x3)]) (st' := [.int (1 : Int32)]) (h' := hp M) rfl ?_
        subst h
        exact am_Y.ret rfl
    · replace h := (if_neg hc).symm.trans h
      refine am_Y.run (k := 2) (pc' := 43) (lv' := [(0, .int x0), (1, .long x1), (3, .long x3)]) (st' := [.int (12 : Int32), .int x0]) (h' := hp M) rfl ?_
      refine am_Y.br (c := x0 = (12 : Int32)) _ (t := 46) (u := 60) (lv' := [(0, .int x0), (1, .long x1), (3, .long x3)]) (st' := []) (h' := hp M) rfl (fun hc => ?_) (fun hc => ?_)
      · replace h := (if_pos hc).symm.trans h
        refine am_Y.run (k := 3) (pc' := 49) (lv' := [(0, .int x0), (1, .long x1), (3, .long x3)]) (st' := [.int (lg_cmp x1 x3)]) (h' := hp M) rfl ?_
        refine am_Y.br (c := (lg_cmp x1 x3) ≤ (0 : Int32)) _ (t := 56) (u := 52) (lv' := [(0, .int x0), (1, .long x1), (3, .long x3)]) (st' := []) (h' := hp M) rfl (fun hc => ?_) (fun hc => ?_)
        · replace h := (if_pos hc).symm.trans h
          refine am_Y.run (k := 2) (pc' := 111) (lv' := [(0, .int x0), (1, .long x1), (3, .long x3)]) (st' := [.int (0 : Int32)]) (h' := hp M) rfl ?_
          subst h
          exact am_Y.ret rfl
        · replace h := (if_neg hc).symm.trans h
          refine am_Y.run (k := 2) (pc' := 111) (lv' := [(0, .int x0), (1, .long x1), (3, .long x3)]) (st' := [.int (1 : Int32)]) (h' := hp M) rfl ?_
          subst h
          exact am_Y.ret rfl
      · replace h := (if_neg hc).symm.trans h
        refine am_Y.run (k := 2) (pc' := 63) (lv' := [(0, .int x0), (1, .long x1), (3, .long x3)]) (st' := [.int (13 : Int32), .int x0]) (h' := hp M) rfl ?_
        refine am_Y.br (c := x0 = (13 : Int32)) _ (t := 66) (u := 80) (lv' := [(0, .int x0), (1, .long x1), (3, .long x3)]) (st' := []) (h' := hp M) rfl (fun hc => ?_) (fun hc => ?_)
        · replace h := (if_pos hc).symm.trans h
          refine am_Y.run (k := 3) (pc' := 69) (lv' := [(0, .int x0), (1, .long x1), (3, .long x3)]) (st' := [.int (lg_cmp x1 x3)]) (h' := hp M) rfl ?_
          refine am_Y.br (c := (lg_cmp x1 x3) < (0 : Int32)) _ (t := 76) (u := 72) (lv' := [(0, .int x0), (1, .long x1), (3, .long x3)]) (st' := []) (h' := hp M) rfl (fun hc => ?_) (fun hc => ?_)
          · replace h := (if_pos hc).symm.trans h
            refine am_Y.run (k := 2) (pc' := 111) (lv' := [(0, .int x0), (1, .long x1), (3, .long x3)]) (st' := [.int (0 : Int32)]) (h' := hp M) rfl ?_
            subst h
            exact am_Y.ret rfl
          · replace h := (if_neg hc).symm.trans h
            refine am_Y.run (k := 2) (pc' := 111) (lv' := [(0, .int x0), (1, .long x1), (3, .long x3)]) (st' := [.int (1 : Int32)]) (h' := hp M) rfl ?_
            subst h
            exact am_Y.ret rfl
        · replace h := (if_neg hc).symm.trans h
          refine am_Y.run (k := 2) (pc' := 83) (lv' := [(0, .int x0), (1, .long x1), (3, .long x3)]) (st' := [.int (14 : Int32), .int x0]) (h' := hp M) rfl ?_
          refine am_Y.br (c := x0 = (14 : Int32)) _ (t := 86) (u := 100) (lv' := [(0, .int x0), (1, .long x1), (3, .long x3)]) (st' := []) (h' := hp M) rfl (fun hc => ?_) (fun hc => ?_)
          · replace h := (if_pos hc).symm.trans h
            refine am_Y.run (k := 3) (pc' := 89) (lv' := [(0, .int x0), (1, .long x1), (3, .long x3)]) (st' := [.int (lg_cmp x1 x3)]) (h' := hp M) rfl ?_
            refine am_Y.br (c := (lg_cmp x1 x3) = (0 : Int32)) _ (t := 92) (u := 96) (lv' := [(0, .int x0), (1, .long x1), (3, .long x3)]) (st' := []) (h' := hp M) rfl (fun hc => ?_) (fun hc => ?_)
            · replace h := (if_pos hc).symm.trans h
              refine am_Y.run (k := 2) (pc' := 111) (lv' := [(0, .int x0), (1, .long x1), (3, .long x3)]) (st' := [.int (1 : Int32)]) (h' := hp M) rfl ?_
              subst h
              exact am_Y.ret rfl
            · replace h := (if_neg hc).symm.trans h
              refine am_Y.run (k := 2) (pc' := 111) (lv' := [(0, .int x0), (1, .long x1), (3, .long x3)]) (st' := [.int (0 : Int32)]) (h' := hp M) rfl ?_
              subst h
              exact am_Y.ret rfl
          · replace h := (if_neg hc).symm.trans h
            refine am_Y.run (k := 3) (pc' := 103) (lv' := [(0, .int x0), (1, .long x1), (3, .long x3)]) (st' := [.int (lg_cmp x1 x3)]) (h' := hp M) rfl ?_
            refine am_Y.br (c := (lg_cmp x1 x3) = (0 : Int32)) _ (t := 110) (u := 106) (lv' := [(0, .int x0), (1, .long x1), (3, .long x3)]) (st' := []) (h' := hp M) rfl (fun hc => ?_) (fun hc => ?_)
            · replace h := (if_pos hc).symm.trans h
              refine am_Y.run (k := 1) (pc' := 111) (lv' := [(0, .int x0), (1, .long x1), (3, .long x3)]) (st' := [.int (0 : Int32)]) (h' := hp M) rfl ?_
              subst h
              exact am_Y.ret rfl
            · replace h := (if_neg hc).symm.trans h
              refine am_Y.run (k := 2) (pc' := 111) (lv' := [(0, .int x0), (1, .long x1), (3, .long x3)]) (st' := [.int (1 : Int32)]) (h' := hp M) rfl ?_
              subst h
              exact am_Y.ret rfl
set_option maxRecDepth 100000 in
theorem z_m_isAsked (x0 : Int32) (x1 : Int64) (x3 : Int64) (M : Mem) : f_m_isAsked x0 x1 x3 M = 0 ∨ f_m_isAsked x0 x1 x3 M = 1 := by
  simp only [f_m_isAsked]
  first | (repeat' split) <;> first | exact Or.inl rfl | exact Or.inr rfl | (simp; done) | (simp; done)
set_option maxRecDepth 100000 in
theorem t_m_clip {S : Nat × (Nat → Int32)} (x0 : Int64) (M : Mem) (r : Int64) (h : f_m_clip x0 M = r) : am_Y S 0 0 0 am_M319 0 [(0, .long x0)] [] (hp M) (some (.long r)) (hp M) := by
  rw [f_m_clip] at h
  refine am_Y.run (k := 3) (pc' := 5) (lv' := [(0, .long x0)]) (st' := [.int (lg_cmp x0 (1000000 : Int64))]) (h' := hp M) rfl ?_
  refine am_Y.br (c := (lg_cmp x0 (1000000 : Int64)) ≤ (0 : Int32)) _ (t := 14) (u := 8) (lv' := [(0, .long x0)]) (st' := []) (h' := hp M) rfl (fun hc => ?_) (fun hc => ?_)
  · replace h := (if_pos hc).symm.trans h
    refine am_Y.run (k := 3) (pc' := 19) (lv' := [(0, .long x0)]) (st' := [.int (lg_cmp x0 (-1000000 : Int64))]) (h' := hp M) rfl ?_
    refine am_Y.br (c := (0 : Int32) ≤ (lg_cmp x0 (-1000000 : Int64))) _ (t := 28) (u := 22) (lv' := [(0, .long x0)]) (st' := []) (h' := hp M) rfl (fun hc => ?_) (fun hc => ?_)
    · replace h := (if_pos hc).symm.trans h
      refine am_Y.run (k := 1) (pc' := 29) (lv' := [(0, .long x0)]) (st' := [.long x0]) (h' := hp M) rfl ?_
      subst h
      exact am_Y.ret rfl
    · replace h := (if_neg hc).symm.trans h
      refine am_Y.run (k := 2) (pc' := 29) (lv' := [(0, .long x0)]) (st' := [.long (-1000000 : Int64)]) (h' := hp M) rfl ?_
      subst h
      exact am_Y.ret rfl
  · replace h := (if_neg hc).symm.trans h
    refine am_Y.run (k := 2) (pc' := 29) (lv' := [(0, .long x0)]) (st' := [.long (1000000 : Int64)]) (h' := hp M) rfl ?_
    subst h
    exact am_Y.ret rfl
set_option maxRecDepth 100000 in
theorem t_m_two {S : Nat × (Nat → Int32)} (x0 : Int32) (x1 : Int64) (x3 : Int64) (M : Mem) (r : Int64) (h : f_m_two x0 x1 x3 M = some r) : am_Y S 1 0 0 am_M296 0 [(0, .int x0), (1, .long x1), (3, .long x3)] [] (hp M) (some (.long r)) (hp M) := by
  rw [f_m_two] at h
  refine am_Y.run (k := 1) (pc' := 1) (lv' := [(0, .int x0), (1, .long x1), (3, .long x3)]) (st' := [.int x0]) (h' := hp M) rfl ?_
  by_cases hc4 : x0 = (4 : Int32)
  · replace h := (if_pos hc4).symm.trans h
    refine am_Y.one (pc' := 28) (lv' := [(0, .int x0), (1, .long x1), (3, .long x3)]) (st' := []) (h' := hp M) (am_swc hc4 rfl) ?_
    refine am_Y.run (k := 3) (pc' := 31) (lv' := [(0, .int x0), (1, .long x1), (3, .long x3)]) (st' := [.long (x1 + x3)]) (h' := hp M) rfl ?_
    refine am_Y.call0 (M' := am_M319) (as := [.long (x1 + x3)]) (rest := []) (d' := 0) rfl (by omega) rfl rfl (t_m_clip (x1 + x3) M _ rfl) ?_
    obtain rfl := Option.some.inj h
    exact am_Y.ret rfl
  replace h := (if_neg hc4).symm.trans h
  by_cases hc5 : x0 = (5 : Int32)
  · replace h := (if_pos hc5).symm.trans h
    refine am_Y.one (pc' := 35) (lv' := [(0, .int x0), (1, .long x1), (3, .long x3)]) (st' := []) (h' := hp M) (am_swc hc5 rfl) ?_
    refine am_Y.run (k := 3) (pc' := 38) (lv' := [(0, .int x0), (1, .long x1), (3, .long x3)]) (st' := [.long (x1 - x3)]) (h' := hp M) rfl ?_
    refine am_Y.call0 (M' := am_M319) (as := [.long (x1 - x3)]) (rest := []) (d' := 0) rfl (by omega) rfl rfl (t_m_clip (x1 - x3) M _ rfl) ?_
    obtain rfl := Option.some.inj h
    exact am_Y.ret rfl
  replace h := (if_neg hc5).symm.trans h
  by_cases hc6 : x0 = (6 : Int32)
  · replace h := (if_pos hc6).symm.trans h
    refine am_Y.one (pc' := 42) (lv' := [(0, .int x0), (1, .long x1), (3, .long x3)]) (st' := []) (h' := hp M) (am_swc hc6 rfl) ?_
    refine am_Y.run (k := 3) (pc' := 45) (lv' := [(0, .int x0), (1, .long x1), (3, .long x3)]) (st' := [.long (x1 * x3)]) (h' := hp M) rfl ?_
    refine am_Y.call0 (M' := am_M319) (as := [.long (x1 * x3)]) (rest := []) (d' := 0) rfl (by omega) rfl rfl (t_m_clip (x1 * x3) M _ rfl) ?_
    obtain rfl := Option.some.inj h
    exact am_Y.ret rfl
  replace h := (if_neg hc6).symm.trans h
  refine am_Y.one (pc' := 49) (lv' := [(0, .int x0), (1, .long x1), (3, .long x3)]) (st' := []) (h' := hp M) (am_swd (x := x0) rfl (by have := am_neT (4) hc4 (by decide); have := am_neT (5) hc5 (by decide); have := am_neT (6) hc6 (by decide); omega) rfl) ?_
  refine am_Y.run (k := 3) (pc' := 52) (lv' := [(0, .int x0), (1, .long x1), (3, .long x3)]) (st' := [.int (lg_cmp x3 (0 : Int64))]) (h' := hp M) rfl ?_
  refine am_Y.br (c := (lg_cmp x3 (0 : Int64)) = (0 : Int32)) _ (t := 55) (u := 59) (lv' := [(0, .int x0), (1, .long x1), (3, .long x3)]) (st' := []) (h' := hp M) rfl (fun hc => ?_) (fun hc => ?_)
  · replace h := (if_pos hc).symm.trans h
    refine am_Y.run (k := 2) (pc' := 65) (lv' := [(0, .int x0), (1, .long x1), (3, .long x3)]) (st' := [.long (0 : Int64)]) (h' := hp M) rfl ?_
    obtain rfl := Option.some.inj h
    exact am_Y.ret rfl
  · replace h := (if_neg hc).symm.trans h
    refine am_Y.run (k := 2) (pc' := 61) (lv' := [(0, .int x0), (1, .long x1), (3, .long x3)]) (st' := [.long x3, .long x1]) (h' := hp M) rfl ?_
    obtain ⟨g, h⟩ := am_itn h
    refine am_Y.ldv rfl g ?_
    refine am_Y.call0 (M' := am_M319) (as := [.long (x1 / x3)]) (rest := []) (d' := 0) rfl (by omega) rfl rfl (t_m_clip (x1 / x3) M _ rfl) ?_
    obtain rfl := Option.some.inj h
    exact am_Y.ret rfl
set_option maxRecDepth 100000 in
theorem t_m_work_49 {S : Nat × (Nat → Int32)} (N : Nat) : ∀ (n : Nat) (x2 : Int32) (x3 : Int32) (x4 : Int32) (x5 : Int32) (x6 : Int32) (M : Mem) (M' : Mem), f_m_work_49 N n x2 x3 x4 x5 x6 M = some M' → am_Y S 2 0 0 am_M248 49 [(0, .ref 129), (2, .int x2), (3, .int x3), (4, .int x4), (5, .int x5), (6, .int x6)] [] (hp M) none (hp M') := by
  intro n
  induction n with
  | zero =>
    intro x2 x3 x4 x5 x6 M M' h
    cases h
  | succ n ih =>
    intro x2 x3 x4 x5 x6 M M' h
    rw [f_m_work_49] at h
    refine am_Y.run (k := 6) (pc' := 58) (lv' := [(0, .ref 129), (2, .int x2), (3, .int x3), (4, .int x4), (5, .int x5), (6, .int x6)]) (st' := [.int (x2 + (2 : Int32)), .ref 132, .int x6]) (h' := hp M) rfl ?_
    obtain ⟨g, h⟩ := am_itg h
    refine am_Y.iald (a := 127) (n := 2820) rfl rfl g ?_
    refine am_Y.br (c := (gi M 132 ((x2 + (2 : Int32))).toNatClampNeg) ≤ x6) _ (t := 395) (u := 62) (lv' := [(0, .ref 129), (2, .int x2), (3, .int x3), (4, .int x4), (5, .int x5), (6, .int x6)]) (st' := []) (h' := hp M) rfl (fun hc => ?_) (fun hc => ?_)
    · replace h := (if_pos hc).symm.trans h
      obtain rfl := Option.some.inj h
      exact am_Y.ret rfl
    · replace h := (if_neg hc).symm.trans h
      refine am_Y.run (k := 7) (pc' := 72) (lv' := [(0, .ref 129), (2, .int x2), (3, .int x3), (4, .int x4), (5, .int x5), (6, .int x6)]) (st' := [.int (x3 + ((2 : Int32) * x6)), .ref 132]) (h' := hp M) rfl ?_
      obtain ⟨g, h⟩ := am_itg h
      refine am_Y.iald (a := 127) (n := 2820) rfl rfl g ?_
      refine am_Y.run (k := 10) (pc' := 87) (lv' := [(7, .int (gi M 132 ((x3 + ((2 : Int32) * x6))).toNatClampNeg)), (0, .ref 129), (2, .int x2), (3, .int x3), (4, .int x4), (5, .int x5), (6, .int x6)]) (st' := [.int ((x3 + ((2 : Int32) * x6)) + (1 : Int32)), .ref 132]) (h' := hp M) rfl ?_
      obtain ⟨g, h⟩ := am_itg h
      refine am_Y.iald (a := 127) (n := 2820) rfl rfl g ?_
      refine am_Y.run (k := 3) (pc' := 93) (lv' := [(8, .int (gi M 132 (((x3 + ((2 : Int32) * x6)) + (1 : Int32))).toNatClampNeg)), (7, .int (gi M 132 ((x3 + ((2 : Int32) * x6))).toNatClampNeg)), (0, .ref 129), (2, .int x2), (3, .int x3), (4, .int x4), (5, .int x5), (6, .int x6)]) (st' := [.int (1 : Int32), .int (gi M 132 ((x3 + ((2 : Int32) * x6))).toNatClampNeg)]) (h' := hp M) rfl ?_
      refine am_Y.br (c := (1 : Int32) < (gi M 132 ((x3 + ((2 : Int32) * x6))).toNatClampNeg)) _ (t := 128) (u := 96) (lv' := [(8, .int (gi M 132 (((x3 + ((2 : Int32) * x6)) + (1 : Int32))).toNatClampNeg)), (7, .int (gi M 132 ((x3 + ((2 : Int32) * x6))).toNatClampNeg)), (0, .ref 129), (2, .int x2), (3, .int x3), (4, .int x4), (5, .int x5), (6, .int x6)]) (st' := []) (h' := hp M) rfl (fun hc => ?_) (fun hc => ?_)
      · replace h := (if_pos hc).symm.trans h
        refine am_Y.run (k := 2) (pc' := 131) (lv' := [(8, .int (gi M 132 (((x3 + ((2 : Int32) * x6)) + (1 : Int32))).toNatClampNeg)), (7, .int (gi M 132 ((x3 + ((2 : Int32) * x6))).toNatClampNeg)), (0, .ref 129), (2, .int x2), (3, .int x3), (4, .int x4), (5, .int x5), (6, .int x6)]) (st' := [.int (2 : Int32), .int (gi M 132 ((x3 + ((2 : Int32) * x6))).toNatClampNeg)]) (h' := hp M) rfl ?_
        refine am_Y.br (c := (gi M 132 ((x3 + ((2 : Int32) * x6))).toNatClampNeg) = (2 : Int32)) _ (t := 134) (u := 162) (lv' := [(8, .int (gi M 132 (((x3 + ((2 : Int32) * x6)) + (1 : Int32))).toNatClampNeg)), (7, .int (gi M 132 ((x3 + ((2 : Int32) * x6))).toNatClampNeg)), (0, .ref 129), (2, .int x2), (3, .int x3), (4, .int x4), (5, .int x5), (6, .int x6)]) (st' := []) (h' := hp M) rfl (fun hc => ?_) (fun hc => ?_)
        · replace h := (if_pos hc).symm.trans h
          refine am_Y.run (k := 10) (pc' := 147) (lv' := [(8, .int (gi M 132 (((x3 + ((2 : Int32) * x6)) + (1 : Int32))).toNatClampNeg)), (7, .int (gi M 132 ((x3 + ((2 : Int32) * x6))).toNatClampNeg)), (0, .ref 129), (2, .int x2), (3, .int x3), (4, .int x4), (5, .int x5), (6, .int x6)]) (st' := [.int ((x3 + ((2 : Int32) * x6)) + (2 : Int32)), .int (gi M 132 (((x3 + ((2 : Int32) * x6)) + (1 : Int32))).toNatClampNeg), .int x4, .ref 129]) (h' := hp M) rfl ?_
          obtain ⟨q1, e_q1, h⟩ := Option.bind_eq_some_iff.mp h
          refine am_Y.call0 (M' := am_M295) (as := [.ref 129, .int x4, .int (gi M 132 (((x3 + ((2 : Int32) * x6)) + (1 : Int32))).toNatClampNeg), .int ((x3 + ((2 : Int32) * x6)) + (2 : Int32))]) (rest := []) (d' := 0) rfl (by omega) rfl rfl (t_m_choose N x4 (gi M 132 (((x3 + ((2 : Int32) * x6)) + (1 : Int32))).toNatClampNeg) ((x3 + ((2 : Int32) * x6)) + (2 : Int32)) M q1.1 q1.2 e_q1) ?_
          refine am_Y.run (k := 8) (pc' := 49) (lv' := [(6, .int ((x6 + (gi M 132 (((x3 + ((2 : Int32) * x6)) + (1 : Int32))).toNatClampNeg)) + (1 : Int32))), (4, .int q1.1), (8, .int (gi M 132 (((x3 + ((2 : Int32) * x6)) + (1 : Int32))).toNatClampNeg)), (7, .int (gi M 132 ((x3 + ((2 : Int32) * x6))).toNatClampNeg)), (0, .ref 129), (2, .int x2), (3, .int x3), (5, .int x5)]) (st' := []) (h' := hp q1.2) rfl ?_
          refine am_Y.weak (lv2 := [(0, .ref 129), (2, .int x2), (3, .int x3), (4, .int q1.1), (5, .int x5), (6, .int ((x6 + (gi M 132 (((x3 + ((2 : Int32) * x6)) + (1 : Int32))).toNatClampNeg)) + (1 : Int32)))]) rfl rfl ⟨rfl, rfl, rfl, rfl, rfl, rfl, trivial⟩ ?_
          exact ih x2 x3 q1.1 x5 ((x6 + (gi M 132 (((x3 + ((2 : Int32) * x6)) + (1 : Int32))).toNatClampNeg)) + (1 : Int32)) q1.2 _ h
        · replace h := (if_neg hc).symm.trans h
          refine am_Y.run (k := 2) (pc' := 165) (lv' := [(8, .int (gi M 132 (((x3 + ((2 : Int32) * x6)) + (1 : Int32))).toNatClampNeg)), (7, .int (gi M 132 ((x3 + ((2 : Int32) * x6))).toNatClampNeg)), (0, .ref 129), (2, .int x2), (3, .int x3), (4, .int x4), (5, .int x5), (6, .int x6)]) (st' := [.int (3 : Int32), .int (gi M 132 ((x3 + ((2 : Int32) * x6))).toNatClampNeg)]) (h' := hp M) rfl ?_
          refine am_Y.br (c := (gi M 132 ((x3 + ((2 : Int32) * x6))).toNatClampNeg) = (3 : Int32)) _ (t := 168) (u := 190) (lv' := [(8, .int (gi M 132 (((x3 + ((2 : Int32) * x6)) + (1 : Int32))).toNatClampNeg)), (7, .int (gi M 132 ((x3 + ((2 : Int32) * x6))).toNatClampNeg)), (0, .ref 129), (2, .int x2), (3, .int x3), (4, .int x4), (5, .int x5), (6, .int x6)]) (st' := []) (h' := hp M) rfl (fun hc => ?_) (fun hc => ?_)
          · replace h := (if_pos hc).symm.trans h
            refine am_Y.run (k := 10) (pc' := 184) (lv' := [(8, .int (gi M 132 (((x3 + ((2 : Int32) * x6)) + (1 : Int32))).toNatClampNeg)), (7, .int (gi M 132 ((x3 + ((2 : Int32) * x6))).toNatClampNeg)), (0, .ref 129), (2, .int x2), (3, .int x3), (4, .int x4), (5, .int x5), (6, .int x6)]) (st' := [.int (x4 - (1 : Int32)), .ref 139, .int (x4 - (1 : Int32)), .ref 139]) (h' := hp M) rfl ?_
            obtain ⟨g, h⟩ := am_itg h
            refine am_Y.lald (a := 134) (n := 330) rfl rfl g ?_
            refine am_Y.run (k := 1) (pc' := 186) (lv' := [(8, .int (gi M 132 (((x3 + ((2 : Int32) * x6)) + (1 : Int32))).toNatClampNeg)), (7, .int (gi M 132 ((x3 + ((2 : Int32) * x6))).toNatClampNeg)), (0, .ref 129), (2, .int x2), (3, .int x3), (4, .int x4), (5, .int x5), (6, .int x6)]) (st' := [.long (-(gj M 139 ((x4 - (1 : Int32))).toNatClampNeg)), .int (x4 - (1 : Int32)), .ref 139]) (h' := hp M) rfl ?_
            obtain ⟨g, h⟩ := am_itg h
            refine am_Y.last (a := 134) (n := 330) rfl rfl g ?_
            refine am_Y.run (k := 0) (pc' := _) (lv' := [(8, .int (gi M 132 (((x3 + ((2 : Int32) * x6)) + (1 : Int32))).toNatClampNeg)), (7, .int (gi M 132 ((x3 + ((2 : Int32) * x6))).toNatClampNeg)), (0, .ref 129), (2, .int x2), (3, .int x3), (4, .int x4), (5, .int x5), (6, .int x6)]) (st' := []) (h' := hp (sj M 139 ((x4 - (1 : Int32))).toNatClampNeg (-(gj M 139 ((x4 - (1 : Int32))).toNatClampNeg)))) rfl ?_
            obtain ⟨q2, e_q2, h⟩ := Option.bind_eq_some_iff.mp h
            rw [Option.some.inj e_q2]
            refine am_Y.run (k := 3) (pc' := 49) (lv' := [(6, .int (x6 + (1 : Int32))), (8, .int (gi M 132 (((x3 + ((2 : Int32) * x6)) + (1 : Int32))).toNatClampNeg)), (7, .int (gi M 132 ((x3 + ((2 : Int32) * x6))).toNatClampNeg)), (0, .ref 129), (2, .int x2), (3, .int x3), (4, .int x4), (5, .int x5)]) (st' := []) (h' := hp q2) rfl ?_
            refine am_Y.weak (lv2 := [(0, .ref 129), (2, .int x2), (3, .int x3), (4, .int x4), (5, .int x5), (6, .int (x6 + (1 : Int32)))]) rfl rfl ⟨rfl, rfl, rfl, rfl, rfl, rfl, trivial⟩ ?_
            exact ih x2 x3 x4 x5 (x6 + (1 : Int32)) q2 _ h
          · replace h := (if_neg hc).symm.trans h
            refine am_Y.run (k := 2) (pc' := 194) (lv' := [(8, .int (gi M 132 (((x3 + ((2 : Int32) * x6)) + (1 : Int32))).toNatClampNeg)), (7, .int (gi M 132 ((x3 + ((2 : Int32) * x6))).toNatClampNeg)), (0, .ref 129), (2, .int x2), (3, .int x3), (4, .int x4), (5, .int x5), (6, .int x6)]) (st' := [.int (10 : Int32), .int (gi M 132 ((x3 + ((2 : Int32) * x6))).toNatClampNeg)]) (h' := hp M) rfl ?_
            refine am_Y.br (c := (10 : Int32) ≤ (gi M 132 ((x3 + ((2 : Int32) * x6))).toNatClampNeg)) _ (t := 233) (u := 197) (lv' := [(8, .int (gi M 132 (((x3 + ((2 : Int32) * x6)) + (1 : Int32))).toNatClampNeg)), (7, .int (gi M 132 ((x3 + ((2 : Int32) * x6))).toNatClampNeg)), (0, .ref 129), (2, .int x2), (3, .int x3), (4, .int x4), (5, .int x5), (6, .int x6)]) (st' := []) (h' := hp M) rfl (fun hc => ?_) (fun hc => ?_)
            · replace h := (if_pos hc).symm.trans h
              refine am_Y.run (k := 2) (pc' := 237) (lv' := [(8, .int (gi M 132 (((x3 + ((2 : Int32) * x6)) + (1 : Int32))).toNatClampNeg)), (7, .int (gi M 132 ((x3 + ((2 : Int32) * x6))).toNatClampNeg)), (0, .ref 129), (2, .int x2), (3, .int x3), (4, .int x4), (5, .int x5), (6, .int x6)]) (st' := [.int (20 : Int32), .int (gi M 132 ((x3 + ((2 : Int32) * x6))).toNatClampNeg)]) (h' := hp M) rfl ?_
              refine am_Y.br (c := (20 : Int32) ≤ (gi M 132 ((x3 + ((2 : Int32) * x6))).toNatClampNeg)) _ (t := 277) (u := 240) (lv' := [(8, .int (gi M 132 (((x3 + ((2 : Int32) * x6)) + (1 : Int32))).toNatClampNeg)), (7, .int (gi M 132 ((x3 + ((2 : Int32) * x6))).toNatClampNeg)), (0, .ref 129), (2, .int x2), (3, .int x3), (4, .int x4), (5, .int x5), (6, .int x6)]) (st' := []) (h' := hp M) rfl (fun hc => ?_) (fun hc => ?_)
              · replace h := (if_pos hc).symm.trans h
                refine am_Y.run (k := 2) (pc' := 281) (lv' := [(8, .int (gi M 132 (((x3 + ((2 : Int32) * x6)) + (1 : Int32))).toNatClampNeg)), (7, .int (gi M 132 ((x3 + ((2 : Int32) * x6))).toNatClampNeg)), (0, .ref 129), (2, .int x2), (3, .int x3), (4, .int x4), (5, .int x5), (6, .int x6)]) (st' := [.int (20 : Int32), .int (gi M 132 ((x3 + ((2 : Int32) * x6))).toNatClampNeg)]) (h' := hp M) rfl ?_
                refine am_Y.br (c := (gi M 132 ((x3 + ((2 : Int32) * x6))).toNatClampNeg) = (20 : Int32)) _ (t := 284) (u := 313) (lv' := [(8, .int (gi M 132 (((x3 + ((2 : Int32) * x6)) + (1 : Int32))).toNatClampNeg)), (7, .int (gi M 132 ((x3 + ((2 : Int32) * x6))).toNatClampNeg)), (0, .ref 129), (2, .int x2), (3, .int x3), (4, .int x4), (5, .int x5), (6, .int x6)]) (st' := []) (h' := hp M) rfl (fun hc => ?_) (fun hc => ?_)
                · replace h := (if_pos hc).symm.trans h
                  refine am_Y.run (k := 10) (pc' := 300) (lv' := [(8, .int (gi M 132 (((x3 + ((2 : Int32) * x6)) + (1 : Int32))).toNatClampNeg)), (7, .int (gi M 132 ((x3 + ((2 : Int32) * x6))).toNatClampNeg)), (0, .ref 129), (2, .int x2), (3, .int x3), (4, .int x4), (5, .int x5), (6, .int x6)]) (st' := [.int (x5 - (1 : Int32)), .ref 140, .int (x5 - (1 : Int32)), .ref 140]) (h' := hp M) rfl ?_
                  obtain ⟨g, h⟩ := am_itg h
                  refine am_Y.zald (a := 135) (n := 330) rfl rfl g ?_
                  refine am_Y.br (c := (gi M 140 ((x5 - (1 : Int32))).toNatClampNeg) = (0 : Int32)) _ (t := 304) (u := 308) (lv' := [(8, .int (gi M 132 (((x3 + ((2 : Int32) * x6)) + (1 : Int32))).toNatClampNeg)), (7, .int (gi M 132 ((x3 + ((2 : Int32) * x6))).toNatClampNeg)), (0, .ref 129), (2, .int x2), (3, .int x3), (4, .int x4), (5, .int x5), (6, .int x6)]) (st' := [.int (x5 - (1 : Int32)), .ref 140]) (h' := hp M) rfl (fun hc => ?_) (fun hc => ?_)
                  · replace h := (if_pos hc).symm.trans h
                    refine am_Y.run (k := 2) (pc' := 309) (lv' := [(8, .int (gi M 132 (((x3 + ((2 : Int32) * x6)) + (1 : Int32))).toNatClampNeg)), (7, .int (gi M 132 ((x3 + ((2 : Int32) * x6))).toNatClampNeg)), (0, .ref 129), (2, .int x2), (3, .int x3), (4, .int x4), (5, .int x5), (6, .int x6)]) (st' := [.int (1 : Int32), .int (x5 - (1 : Int32)), .ref 140]) (h' := hp M) rfl ?_
                    obtain ⟨g, h⟩ := am_itg h
                    refine am_Y.zast (a := 135) (n := 330) rfl rfl g.1 (am_z01 g.2) ?_
                    refine am_Y.run (k := 0) (pc' := _) (lv' := [(8, .int (gi M 132 (((x3 + ((2 : Int32) * x6)) + (1 : Int32))).toNatClampNeg)), (7, .int (gi M 132 ((x3 + ((2 : Int32) * x6))).toNatClampNeg)), (0, .ref 129), (2, .int x2), (3, .int x3), (4, .int x4), (5, .int x5), (6, .int x6)]) (st' := []) (h' := hp (si M 140 ((x5 - (1 : Int32))).toNatClampNeg (1 : Int32))) rfl ?_
                    obtain ⟨q3, e_q3, h⟩ := Option.bind_eq_some_iff.mp h
                    rw [Option.some.inj e_q3]
                    refine am_Y.run (k := 3) (pc' := 49) (lv' := [(6, .int (x6 + (1 : Int32))), (8, .int (gi M 132 (((x3 + ((2 : Int32) * x6)) + (1 : Int32))).toNatClampNeg)), (7, .int (gi M 132 ((x3 + ((2 : Int32) * x6))).toNatClampNeg)), (0, .ref 129), (2, .int x2), (3, .int x3), (4, .int x4), (5, .int x5)]) (st' := []) (h' := hp q3) rfl ?_
                    refine am_Y.weak (lv2 := [(0, .ref 129), (2, .int x2), (3, .int x3), (4, .int x4), (5, .int x5), (6, .int (x6 + (1 : Int32)))]) rfl rfl ⟨rfl, rfl, rfl, rfl, rfl, rfl, trivial⟩ ?_
                    exact ih x2 x3 x4 x5 (x6 + (1 : Int32)) q3 _ h
                  · replace h := (if_neg hc).symm.trans h
                    refine am_Y.run (k := 1) (pc' := 309) (lv' := [(8, .int (gi M 132 (((x3 + ((2 : Int32) * x6)) + (1 : Int32))).toNatClampNeg)), (7, .int (gi M 132 ((x3 + ((2 : Int32) * x6))).toNatClampNeg)), (0, .ref 129), (2, .int x2), (3, .int x3), (4, .int x4), (5, .int x5), (6, .int x6)]) (st' := [.int (0 : Int32), .int (x5 - (1 : Int32)), .ref 140]) (h' := hp M) rfl ?_
                    obtain ⟨g, h⟩ := am_itg h
                    refine am_Y.zast (a := 135) (n := 330) rfl rfl g.1 (am_z01 g.2) ?_
                    refine am_Y.run (k := 0) (pc' := _) (lv' := [(8, .int (gi M 132 (((x3 + ((2 : Int32) * x6)) + (1 : Int32))).toNatClampNeg)), (7, .int (gi M 132 ((x3 + ((2 : Int32) * x6))).toNatClampNeg)), (0, .ref 129), (2, .int x2), (3, .int x3), (4, .int x4), (5, .int x5), (6, .int x6)]) (st' := []) (h' := hp (si M 140 ((x5 - (1 : Int32))).toNatClampNeg (0 : Int32))) rfl ?_
                    obtain ⟨q4, e_q4, h⟩ := Option.bind_eq_some_iff.mp h
                    rw [Option.some.inj e_q4]
                    refine am_Y.run (k := 3) (pc' := 49) (lv' := [(6, .int (x6 + (1 : Int32))), (8, .int (gi M 132 (((x3 + ((2 : Int32) * x6)) + (1 : Int32))).toNatClampNeg)), (7, .int (gi M 132 ((x3 + ((2 : Int32) * x6))).toNatClampNeg)), (0, .ref 129), (2, .int x2), (3, .int x3), (4, .int x4), (5, .int x5)]) (st' := []) (h' := hp q4) rfl ?_
                    refine am_Y.weak (lv2 := [(0, .ref 129), (2, .int x2), (3, .int x3), (4, .int x4), (5, .int x5), (6, .int (x6 + (1 : Int32)))]) rfl rfl ⟨rfl, rfl, rfl, rfl, rfl, rfl, trivial⟩ ?_
                    exact ih x2 x3 x4 x5 (x6 + (1 : Int32)) q4 _ h
                · replace h := (if_neg hc).symm.trans h
                  refine am_Y.run (k := 8) (pc' := 328) (lv' := [(5, .int (x5 + (-1 : Int32))), (8, .int (gi M 132 (((x3 + ((2 : Int32) * x6)) + (1 : Int32))).toNatClampNeg)), (7, .int (gi M 132 ((x3 + ((2 : Int32) * x6))).toNatClampNeg)), (0, .ref 129), (2, .int x2), (3, .int x3), (4, .int x4), (6, .int x6)]) (st' := [.int (21 : Int32), .int (gi M 132 ((x3 + ((2 : Int32) * x6))).toNatClampNeg), .int ((x5 + (-1 : Int32)) - (1 : Int32)), .ref 140]) (h' := hp M) rfl ?_
                  refine am_Y.br (c := (gi M 132 ((x3 + ((2 : Int32) * x6))).toNatClampNeg) = (21 : Int32)) _ (t := 331) (u := 361) (lv' := [(5, .int (x5 + (-1 : Int32))), (8, .int (gi M 132 (((x3 + ((2 : Int32) * x6)) + (1 : Int32))).toNatClampNeg)), (7, .int (gi M 132 ((x3 + ((2 : Int32) * x6))).toNatClampNeg)), (0, .ref 129), (2, .int x2), (3, .int x3), (4, .int x4), (6, .int x6)]) (st' := [.int ((x5 + (-1 : Int32)) - (1 : Int32)), .ref 140]) (h' := hp M) rfl (fun hc => ?_) (fun hc => ?_)
                  · replace h := (if_pos hc).symm.trans h
                    refine am_Y.run (k := 5) (pc' := 339) (lv' := [(5, .int (x5 + (-1 : Int32))), (8, .int (gi M 132 (((x3 + ((2 : Int32) * x6)) + (1 : Int32))).toNatClampNeg)), (7, .int (gi M 132 ((x3 + ((2 : Int32) * x6))).toNatClampNeg)), (0, .ref 129), (2, .int x2), (3, .int x3), (4, .int x4), (6, .int x6)]) (st' := [.int ((x5 + (-1 : Int32)) - (1 : Int32)), .ref 140, .int ((x5 + (-1 : Int32)) - (1 : Int32)), .ref 140]) (h' := hp M) rfl ?_
                    obtain ⟨g, h⟩ := am_itg h
                    refine am_Y.zald (a := 135) (n := 330) rfl rfl g ?_
                    refine am_Y.br (c := (gi M 140 (((x5 + (-1 : Int32)) - (1 : Int32))).toNatClampNeg) = (0 : Int32)) _ (t := 357) (u := 343) (lv' := [(5, .int (x5 + (-1 : Int32))), (8, .int (gi M 132 (((x3 + ((2 : Int32) * x6)) + (1 : Int32))).toNatClampNeg)), (7, .int (gi M 132 ((x3 + ((2 : Int32) * x6))).toNatClampNeg)), (0, .ref 129), (2, .int x2), (3, .int x3), (4, .int x4), (6, .int x6)]) (st' := [.int ((x5 + (-1 : Int32)) - (1 : Int32)), .ref 140]) (h' := hp M) rfl (fun hc => ?_) (fun hc => ?_)
                    · replace h := (if_pos hc).symm.trans h
                      refine am_Y.run (k := 2) (pc' := 388) (lv' := [(5, .int (x5 + (-1 : Int32))), (8, .int (gi M 132 (((x3 + ((2 : Int32) * x6)) + (1 : Int32))).toNatClampNeg)), (7, .int (gi M 132 ((x3 + ((2 : Int32) * x6))).toNatClampNeg)), (0, .ref 129), (2, .int x2), (3, .int x3), (4, .int x4), (6, .int x6)]) (st' := [.int (0 : Int32), .int ((x5 + (-1 : Int32)) - (1 : Int32)), .ref 140]) (h' := hp M) rfl ?_
                      obtain ⟨g, h⟩ := am_itg h
                      refine am_Y.zast (a := 135) (n := 330) rfl rfl g.1 (am_z01 g.2) ?_
                      refine am_Y.run (k := 0) (pc' := _) (lv' := [(5, .int (x5 + (-1 : Int32))), (8, .int (gi M 132 (((x3 + ((2 : Int32) * x6)) + (1 : Int32))).toNatClampNeg)), (7, .int (gi M 132 ((x3 + ((2 : Int32) * x6))).toNatClampNeg)), (0, .ref 129), (2, .int x2), (3, .int x3), (4, .int x4), (6, .int x6)]) (st' := []) (h' := hp (si M 140 (((x5 + (-1 : Int32)) - (1 : Int32))).toNatClampNeg (0 : Int32))) rfl ?_
                      obtain ⟨q5, e_q5, h⟩ := Option.bind_eq_some_iff.mp h
                      rw [Option.some.inj e_q5]
                      refine am_Y.run (k := 2) (pc' := 49) (lv' := [(6, .int (x6 + (1 : Int32))), (5, .int (x5 + (-1 : Int32))), (8, .int (gi M 132 (((x3 + ((2 : Int32) * x6)) + (1 : Int32))).toNatClampNeg)), (7, .int (gi M 132 ((x3 + ((2 : Int32) * x6))).toNatClampNeg)), (0, .ref 129), (2, .int x2), (3, .int x3), (4, .int x4)]) (st' := []) (h' := hp q5) rfl ?_
                      refine am_Y.weak (lv2 := [(0, .ref 129), (2, .int x2), (3, .int x3), (4, .int x4), (5, .int (x5 + (-1 : Int32))), (6, .int (x6 + (1 : Int32)))]) rfl rfl ⟨rfl, rfl, rfl, rfl, rfl, rfl, trivial⟩ ?_
                      exact ih x2 x3 x4 (x5 + (-1 : Int32)) (x6 + (1 : Int32)) q5 _ h
                    · replace h := (if_neg hc).symm.trans h
                      refine am_Y.run (k := 3) (pc' := 349) (lv' := [(5, .int (x5 + (-1 : Int32))), (8, .int (gi M 132 (((x3 + ((2 : Int32) * x6)) + (1 : Int32))).toNatClampNeg)), (7, .int (gi M 132 ((x3 + ((2 : Int32) * x6))).toNatClampNeg)), (0, .ref 129), (2, .int x2), (3, .int x3), (4, .int x4), (6, .int x6)]) (st' := [.int (x5 + (-1 : Int32)), .ref 140, .int ((x5 + (-1 : Int32)) - (1 : Int32)), .ref 140]) (h' := hp M) rfl ?_
                      obtain ⟨g, h⟩ := am_itg h
                      refine am_Y.zald (a := 135) (n := 330) rfl rfl g ?_
                      refine am_Y.br (c := (gi M 140 ((x5 + (-1 : Int32))).toNatClampNeg) = (0 : Int32)) _ (t := 357) (u := 353) (lv' := [(5, .int (x5 + (-1 : Int32))), (8, .int (gi M 132 (((x3 + ((2 : Int32) * x6)) + (1 : Int32))).toNatClampNeg)), (7, .int (gi M 132 ((x3 + ((2 : Int32) * x6))).toNatClampNeg)), (0, .ref 129), (2, .int x2), (3, .int x3), (4, .int x4), (6, .int x6)]) (st' := [.int ((x5 + (-1 : Int32)) - (1 : Int32)), .ref 140]) (h' := hp M) rfl (fun hc => ?_) (fun hc => ?_)
                      · replace h := (if_pos hc).symm.trans h
                        refine am_Y.run (k := 2) (pc' := 388) (lv' := [(5, .int (x5 + (-1 : Int32))), (8, .int (gi M 132 (((x3 + ((2 : Int32) * x6)) + (1 : Int32))).toNatClampNeg)), (7, .int (gi M 132 ((x3 + ((2 : Int32) * x6))).toNatClampNeg)), (0, .ref 129), (2, .int x2), (3, .int x3), (4, .int x4), (6, .int x6)]) (st' := [.int (0 : Int32), .int ((x5 + (-1 : Int32)) - (1 : Int32)), .ref 140]) (h' := hp M) rfl ?_
                        obtain ⟨g, h⟩ := am_itg h
                        refine am_Y.zast (a := 135) (n := 330) rfl rfl g.1 (am_z01 g.2) ?_
                        refine am_Y.run (k := 0) (pc' := _) (lv' := [(5, .int (x5 + (-1 : Int32))), (8, .int (gi M 132 (((x3 + ((2 : Int32) * x6)) + (1 : Int32))).toNatClampNeg)), (7, .int (gi M 132 ((x3 + ((2 : Int32) * x6))).toNatClampNeg)), (0, .ref 129), (2, .int x2), (3, .int x3), (4, .int x4), (6, .int x6)]) (st' := []) (h' := hp (si M 140 (((x5 + (-1 : Int32)) - (1 : Int32))).toNatClampNeg (0 : Int32))) rfl ?_
                        obtain ⟨q6, e_q6, h⟩ := Option.bind_eq_some_iff.mp h
                        rw [Option.some.inj e_q6]
                        refine am_Y.run (k := 2) (pc' := 49) (lv' := [(6, .int (x6 + (1 : Int32))), (5, .int (x5 + (-1 : Int32))), (8, .int (gi M 132 (((x3 + ((2 : Int32) * x6)) + (1 : Int32))).toNatClampNeg)), (7, .int (gi M 132 ((x3 + ((2 : Int32) * x6))).toNatClampNeg)), (0, .ref 129), (2, .int x2), (3, .int x3), (4, .int x4)]) (st' := []) (h' := hp q6) rfl ?_
                        refine am_Y.weak (lv2 := [(0, .ref 129), (2, .int x2), (3, .int x3), (4, .int x4), (5, .int (x5 + (-1 : Int32))), (6, .int (x6 + (1 : Int32)))]) rfl rfl ⟨rfl, rfl, rfl, rfl, rfl, rfl, trivial⟩ ?_
                        exact ih x2 x3 x4 (x5 + (-1 : Int32)) (x6 + (1 : Int32)) q6 _ h
                      · replace h := (if_neg hc).symm.trans h
                        refine am_Y.run (k := 2) (pc' := 388) (lv' := [(5, .int (x5 + (-1 : Int32))), (8, .int (gi M 132 (((x3 + ((2 : Int32) * x6)) + (1 : Int32))).toNatClampNeg)), (7, .int (gi M 132 ((x3 + ((2 : Int32) * x6))).toNatClampNeg)), (0, .ref 129), (2, .int x2), (3, .int x3), (4, .int x4), (6, .int x6)]) (st' := [.int (1 : Int32), .int ((x5 + (-1 : Int32)) - (1 : Int32)), .ref 140]) (h' := hp M) rfl ?_
                        obtain ⟨g, h⟩ := am_itg h
                        refine am_Y.zast (a := 135) (n := 330) rfl rfl g.1 (am_z01 g.2) ?_
                        refine am_Y.run (k := 0) (pc' := _) (lv' := [(5, .int (x5 + (-1 : Int32))), (8, .int (gi M 132 (((x3 + ((2 : Int32) * x6)) + (1 : Int32))).toNatClampNeg)), (7, .int (gi M 132 ((x3 + ((2 : Int32) * x6))).toNatClampNeg)), (0, .ref 129), (2, .int x2), (3, .int x3), (4, .int x4), (6, .int x6)]) (st' := []) (h' := hp (si M 140 (((x5 + (-1 : Int32)) - (1 : Int32))).toNatClampNeg (1 : Int32))) rfl ?_
                        obtain ⟨q7, e_q7, h⟩ := Option.bind_eq_some_iff.mp h
                        rw [Option.some.inj e_q7]
                        refine am_Y.run (k := 2) (pc' := 49) (lv' := [(6, .int (x6 + (1 : Int32))), (5, .int (x5 + (-1 : Int32))), (8, .int (gi M 132 (((x3 + ((2 : Int32) * x6)) + (1 : Int32))).toNatClampNeg)), (7, .int (gi M 132 ((x3 + ((2 : Int32) * x6))).toNatClampNeg)), (0, .ref 129), (2, .int x2), (3, .int x3), (4, .int x4)]) (st' := []) (h' := hp q7) rfl ?_
                        refine am_Y.weak (lv2 := [(0, .ref 129), (2, .int x2), (3, .int x3), (4, .int x4), (5, .int (x5 + (-1 : Int32))), (6, .int (x6 + (1 : Int32)))]) rfl rfl ⟨rfl, rfl, rfl, rfl, rfl, rfl, trivial⟩ ?_
                        exact ih x2 x3 x4 (x5 + (-1 : Int32)) (x6 + (1 : Int32)) q7 _ h
                  · replace h := (if_neg hc).symm.trans h
                    refine am_Y.run (k := 5) (pc' := 369) (lv' := [(5, .int (x5 + (-1 : Int32))), (8, .int (gi M 132 (((x3 + ((2 : Int32) * x6)) + (1 : Int32))).toNatClampNeg)), (7, .int (gi M 132 ((x3 + ((2 : Int32) * x6))).toNatClampNeg)), (0, .ref 129), (2, .int x2), (3, .int x3), (4, .int x4), (6, .int x6)]) (st' := [.int ((x5 + (-1 : Int32)) - (1 : Int32)), .ref 140, .int ((x5 + (-1 : Int32)) - (1 : Int32)), .ref 140]) (h' := hp M) rfl ?_
                    obtain ⟨g, h⟩ := am_itg h
                    refine am_Y.zald (a := 135) (n := 330) rfl rfl g ?_
                    refine am_Y.br (c := (gi M 140 (((x5 + (-1 : Int32)) - (1 : Int32))).toNatClampNeg) = (0 : Int32)) _ (t := 373) (u := 383) (lv' := [(5, .int (x5 + (-1 : Int32))), (8, .int (gi M 132 (((x3 + ((2 : Int32) * x6)) + (1 : Int32))).toNatClampNeg)), (7, .int (gi M 132 ((x3 + ((2 : Int32) * x6))).toNatClampNeg)), (0, .ref 129), (2, .int x2), (3, .int x3), (4, .int x4), (6, .int x6)]) (st' := [.int ((x5 + (-1 : Int32)) - (1 : Int32)), .ref 140]) (h' := hp M) rfl (fun hc => ?_) (fun hc => ?_)
                    · replace h := (if_pos hc).symm.trans h
                      refine am_Y.run (k := 3) (pc' := 379) (lv' := [(5, .int (x5 + (-1 : Int32))), (8, .int (gi M 132 (((x3 + ((2 : Int32) * x6)) + (1 : Int32))).toNatClampNeg)), (7, .int (gi M 132 ((x3 + ((2 : Int32) * x6))).toNatClampNeg)), (0, .ref 129), (2, .int x2), (3, .int x3), (4, .int x4), (6, .int x6)]) (st' := [.int (x5 + (-1 : Int32)), .ref 140, .int ((x5 + (-1 : Int32)) - (1 : Int32)), .ref 140]) (h' := hp M) rfl ?_
                      obtain ⟨g, h⟩ := am_itg h
                      refine am_Y.zald (a := 135) (n := 330) rfl rfl g ?_
                      refine am_Y.br (c := (gi M 140 ((x5 + (-1 : Int32))).toNatClampNeg) = (0 : Int32)) _ (t := 387) (u := 383) (lv' := [(5, .int (x5 + (-1 : Int32))), (8, .int (gi M 132 (((x3 + ((2 : Int32) * x6)) + (1 : Int32))).toNatClampNeg)), (7, .int (gi M 132 ((x3 + ((2 : Int32) * x6))).toNatClampNeg)), (0, .ref 129), (2, .int x2), (3, .int x3), (4, .int x4), (6, .int x6)]) (st' := [.int ((x5 + (-1 : Int32)) - (1 : Int32)), .ref 140]) (h' := hp M) rfl (fun hc => ?_) (fun hc => ?_)
                      · replace h := (if_pos hc).symm.trans h
                        refine am_Y.run (k := 1) (pc' := 388) (lv' := [(5, .int (x5 + (-1 : Int32))), (8, .int (gi M 132 (((x3 + ((2 : Int32) * x6)) + (1 : Int32))).toNatClampNeg)), (7, .int (gi M 132 ((x3 + ((2 : Int32) * x6))).toNatClampNeg)), (0, .ref 129), (2, .int x2), (3, .int x3), (4, .int x4), (6, .int x6)]) (st' := [.int (0 : Int32), .int ((x5 + (-1 : Int32)) - (1 : Int32)), .ref 140]) (h' := hp M) rfl ?_
                        obtain ⟨g, h⟩ := am_itg h
                        refine am_Y.zast (a := 135) (n := 330) rfl rfl g.1 (am_z01 g.2) ?_
                        refine am_Y.run (k := 0) (pc' := _) (lv' := [(5, .int (x5 + (-1 : Int32))), (8, .int (gi M 132 (((x3 + ((2 : Int32) * x6)) + (1 : Int32))).toNatClampNeg)), (7, .int (gi M 132 ((x3 + ((2 : Int32) * x6))).toNatClampNeg)), (0, .ref 129), (2, .int x2), (3, .int x3), (4, .int x4), (6, .int x6)]) (st' := []) (h' := hp (si M 140 (((x5 + (-1 : Int32)) - (1 : Int32))).toNatClampNeg (0 : Int32))) rfl ?_
                        obtain ⟨q8, e_q8, h⟩ := Option.bind_eq_some_iff.mp h
                        rw [Option.some.inj e_q8]
                        refine am_Y.run (k := 2) (pc' := 49) (lv' := [(6, .int (x6 + (1 : Int32))), (5, .int (x5 + (-1 : Int32))), (8, .int (gi M 132 (((x3 + ((2 : Int32) * x6)) + (1 : Int32))).toNatClampNeg)), (7, .int (gi M 132 ((x3 + ((2 : Int32) * x6))).toNatClampNeg)), (0, .ref 129), (2, .int x2), (3, .int x3), (4, .int x4)]) (st' := []) (h' := hp q8) rfl ?_
                        refine am_Y.weak (lv2 := [(0, .ref 129), (2, .int x2), (3, .int x3), (4, .int x4), (5, .int (x5 + (-1 : Int32))), (6, .int (x6 + (1 : Int32)))]) rfl rfl ⟨rfl, rfl, rfl, rfl, rfl, rfl, trivial⟩ ?_
                        exact ih x2 x3 x4 (x5 + (-1 : Int32)) (x6 + (1 : Int32)) q8 _ h
                      · replace h := (if_neg hc).symm.trans h
                        refine am_Y.run (k := 2) (pc' := 388) (lv' := [(5, .int (x5 + (-1 : Int32))), (8, .int (gi M 132 (((x3 + ((2 : Int32) * x6)) + (1 : Int32))).toNatClampNeg)), (7, .int (gi M 132 ((x3 + ((2 : Int32) * x6))).toNatClampNeg)), (0, .ref 129), (2, .int x2), (3, .int x3), (4, .int x4), (6, .int x6)]) (st' := [.int (1 : Int32), .int ((x5 + (-1 : Int32)) - (1 : Int32)), .ref 140]) (h' := hp M) rfl ?_
                        obtain ⟨g, h⟩ := am_itg h
                        refine am_Y.zast (a := 135) (n := 330) rfl rfl g.1 (am_z01 g.2) ?_
                        refine am_Y.run (k := 0) (pc' := _) (lv' := [(5, .int (x5 + (-1 : Int32))), (8, .int (gi M 132 (((x3 + ((2 : Int32) * x6)) + (1 : Int32))).toNatClampNeg)), (7, .int (gi M 132 ((x3 + ((2 : Int32) * x6))).toNatClampNeg)), (0, .ref 129), (2, .int x2), (3, .int x3), (4, .int x4), (6, .int x6)]) (st' := []) (h' := hp (si M 140 (((x5 + (-1 : Int32)) - (1 : Int32))).toNatClampNeg (1 : Int32))) rfl ?_
                        obtain ⟨q9, e_q9, h⟩ := Option.bind_eq_some_iff.mp h
                        rw [Option.some.inj e_q9]
                        refine am_Y.run (k := 2) (pc' := 49) (lv' := [(6, .int (x6 + (1 : Int32))), (5, .int (x5 + (-1 : Int32))), (8, .int (gi M 132 (((x3 + ((2 : Int32) * x6)) + (1 : Int32))).toNatClampNeg)), (7, .int (gi M 132 ((x3 + ((2 : Int32) * x6))).toNatClampNeg)), (0, .ref 129), (2, .int x2), (3, .int x3), (4, .int x4)]) (st' := []) (h' := hp q9) rfl ?_
                        refine am_Y.weak (lv2 := [(0, .ref 129), (2, .int x2), (3, .int x3), (4, .int x4), (5, .int (x5 + (-1 : Int32))), (6, .int (x6 + (1 : Int32)))]) rfl rfl ⟨rfl, rfl, rfl, rfl, rfl, rfl, trivial⟩ ?_
                        exact ih x2 x3 x4 (x5 + (-1 : Int32)) (x6 + (1 : Int32)) q9 _ h
                    · replace h := (if_neg hc).symm.trans h
                      refine am_Y.run (k := 2) (pc' := 388) (lv' := [(5, .int (x5 + (-1 : Int32))), (8, .int (gi M 132 (((x3 + ((2 : Int32) * x6)) + (1 : Int32))).toNatClampNeg)), (7, .int (gi M 132 ((x3 + ((2 : Int32) * x6))).toNatClampNeg)), (0, .ref 129), (2, .int x2), (3, .int x3), (4, .int x4), (6, .int x6)]) (st' := [.int (1 : Int32), .int ((x5 + (-1 : Int32)) - (1 : Int32)), .ref 140]) (h' := hp M) rfl ?_
                      obtain ⟨g, h⟩ := am_itg h
                      refine am_Y.zast (a := 135) (n := 330) rfl rfl g.1 (am_z01 g.2) ?_
                      refine am_Y.run (k := 0) (pc' := _) (lv' := [(5, .int (x5 + (-1 : Int32))), (8, .int (gi M 132 (((x3 + ((2 : Int32) * x6)) + (1 : Int32))).toNatClampNeg)), (7, .int (gi M 132 ((x3 + ((2 : Int32) * x6))).toNatClampNeg)), (0, .ref 129), (2, .int x2), (3, .int x3), (4, .int x4), (6, .int x6)]) (st' := []) (h' := hp (si M 140 (((x5 + (-1 : Int32)) - (1 : Int32))).toNatClampNeg (1 : Int32))) rfl ?_
                      obtain ⟨q10, e_q10, h⟩ := Option.bind_eq_some_iff.mp h
                      rw [Option.some.inj e_q10]
                      refine am_Y.run (k := 2) (pc' := 49) (lv' := [(6, .int (x6 + (1 : Int32))), (5, .int (x5 + (-1 : Int32))), (8, .int (gi M 132 (((x3 + ((2 : Int32) * x6)) + (1 : Int32))).toNatClampNeg)), (7, .int (gi M 132 ((x3 + ((2 : Int32) * x6))).toNatClampNeg)), (0, .ref 129), (2, .int x2), (3, .int x3), (4, .int x4)]) (st' := []) (h' := hp q10) rfl ?_
                      refine am_Y.weak (lv2 := [(0, .ref 129), (2, .int x2), (3, .int x3), (4, .int x4), (5, .int (x5 + (-1 : Int32))), (6, .int (x6 + (1 : Int32)))]) rfl rfl ⟨rfl, rfl, rfl, rfl, rfl, rfl, trivial⟩ ?_
                      exact ih x2 x3 x4 (x5 + (-1 : Int32)) (x6 + (1 : Int32)) q10 _ h
              · replace h := (if_neg hc).symm.trans h
                refine am_Y.run (k := 8) (pc' := 257) (lv' := [(4, .int (x4 + (-2 : Int32))), (8, .int (gi M 132 (((x3 + ((2 : Int32) * x6)) + (1 : Int32))).toNatClampNeg)), (7, .int (gi M 132 ((x3 + ((2 : Int32) * x6))).toNatClampNeg)), (0, .ref 129), (2, .int x2), (3, .int x3), (5, .int x5), (6, .int x6)]) (st' := [.int (x4 + (-2 : Int32)), .ref 139, .int (gi M 132 ((x3 + ((2 : Int32) * x6))).toNatClampNeg), .int x5, .ref 140]) (h' := hp M) rfl ?_
                obtain ⟨g, h⟩ := am_itg h
                refine am_Y.lald (a := 134) (n := 330) rfl rfl g ?_
                refine am_Y.run (k := 5) (pc' := 266) (lv' := [(4, .int (x4 + (-2 : Int32))), (8, .int (gi M 132 (((x3 + ((2 : Int32) * x6)) + (1 : Int32))).toNatClampNeg)), (7, .int (gi M 132 ((x3 + ((2 : Int32) * x6))).toNatClampNeg)), (0, .ref 129), (2, .int x2), (3, .int x3), (5, .int x5), (6, .int x6)]) (st' := [.int ((x4 + (-2 : Int32)) + (1 : Int32)), .ref 139, .long (gj M 139 ((x4 + (-2 : Int32))).toNatClampNeg), .int (gi M 132 ((x3 + ((2 : Int32) * x6))).toNatClampNeg), .int x5, .ref 140]) (h' := hp M) rfl ?_
                obtain ⟨g, h⟩ := am_itg h
                refine am_Y.lald (a := 134) (n := 330) rfl rfl g ?_
                refine am_Y.call0 (M' := am_M297) (as := [.int (gi M 132 ((x3 + ((2 : Int32) * x6))).toNatClampNeg), .long (gj M 139 ((x4 + (-2 : Int32))).toNatClampNeg), .long (gj M 139 (((x4 + (-2 : Int32)) + (1 : Int32))).toNatClampNeg)]) (rest := [.int x5, .ref 140]) (d' := 0) rfl (by omega) rfl rfl (t_m_isAsked (gi M 132 ((x3 + ((2 : Int32) * x6))).toNatClampNeg) (gj M 139 ((x4 + (-2 : Int32))).toNatClampNeg) (gj M 139 (((x4 + (-2 : Int32)) + (1 : Int32))).toNatClampNeg) M _ rfl) ?_
                obtain ⟨g, h⟩ := am_itg h
                refine am_Y.zast (a := 135) (n := 330) rfl rfl g.1 (am_z01 g.2) ?_
                refine am_Y.run (k := 0) (pc' := _) (lv' := [(4, .int (x4 + (-2 : Int32))), (8, .int (gi M 132 (((x3 + ((2 : Int32) * x6)) + (1 : Int32))).toNatClampNeg)), (7, .int (gi M 132 ((x3 + ((2 : Int32) * x6))).toNatClampNeg)), (0, .ref 129), (2, .int x2), (3, .int x3), (5, .int x5), (6, .int x6)]) (st' := []) (h' := hp (si M 140 (x5).toNatClampNeg (f_m_isAsked (gi M 132 ((x3 + ((2 : Int32) * x6))).toNatClampNeg) (gj M 139 ((x4 + (-2 : Int32))).toNatClampNeg) (gj M 139 (((x4 + (-2 : Int32)) + (1 : Int32))).toNatClampNeg) M))) rfl ?_
                obtain ⟨q11, e_q11, h⟩ := Option.bind_eq_some_iff.mp h
                rw [Option.some.inj e_q11]
                refine am_Y.run (k := 4) (pc' := 49) (lv' := [(6, .int (x6 + (1 : Int32))), (5, .int (x5 + (1 : Int32))), (4, .int (x4 + (-2 : Int32))), (8, .int (gi M 132 (((x3 + ((2 : Int32) * x6)) + (1 : Int32))).toNatClampNeg)), (7, .int (gi M 132 ((x3 + ((2 : Int32) * x6))).toNatClampNeg)), (0, .ref 129), (2, .int x2), (3, .int x3)]) (st' := []) (h' := hp q11) rfl ?_
                refine am_Y.weak (lv2 := [(0, .ref 129), (2, .int x2), (3, .int x3), (4, .int (x4 + (-2 : Int32))), (5, .int (x5 + (1 : Int32))), (6, .int (x6 + (1 : Int32)))]) rfl rfl ⟨rfl, rfl, rfl, rfl, rfl, rfl, trivial⟩ ?_
                exact ih x2 x3 (x4 + (-2 : Int32)) (x5 + (1 : Int32)) (x6 + (1 : Int32)) q11 _ h
            · replace h := (if_neg hc).symm.trans h
              refine am_Y.run (k := 12) (pc' := 218) (lv' := [(4, .int (x4 + (-1 : Int32))), (8, .int (gi M 132 (((x3 + ((2 : Int32) * x6)) + (1 : Int32))).toNatClampNeg)), (7, .int (gi M 132 ((x3 + ((2 : Int32) * x6))).toNatClampNeg)), (0, .ref 129), (2, .int x2), (3, .int x3), (5, .int x5), (6, .int x6)]) (st' := [.int ((x4 + (-1 : Int32)) - (1 : Int32)), .ref 139, .int (gi M 132 ((x3 + ((2 : Int32) * x6))).toNatClampNeg), .int ((x4 + (-1 : Int32)) - (1 : Int32)), .ref 139]) (h' := hp M) rfl ?_
              obtain ⟨g, h⟩ := am_itg h
              refine am_Y.lald (a := 134) (n := 330) rfl rfl g ?_
              refine am_Y.run (k := 3) (pc' := 225) (lv' := [(4, .int (x4 + (-1 : Int32))), (8, .int (gi M 132 (((x3 + ((2 : Int32) * x6)) + (1 : Int32))).toNatClampNeg)), (7, .int (gi M 132 ((x3 + ((2 : Int32) * x6))).toNatClampNeg)), (0, .ref 129), (2, .int x2), (3, .int x3), (5, .int x5), (6, .int x6)]) (st' := [.int (x4 + (-1 : Int32)), .ref 139, .long (gj M 139 (((x4 + (-1 : Int32)) - (1 : Int32))).toNatClampNeg), .int (gi M 132 ((x3 + ((2 : Int32) * x6))).toNatClampNeg), .int ((x4 + (-1 : Int32)) - (1 : Int32)), .ref 139]) (h' := hp M) rfl ?_
              obtain ⟨g, h⟩ := am_itg h
              refine am_Y.lald (a := 134) (n := 330) rfl rfl g ?_
              obtain ⟨q12, e_q12, h⟩ := Option.bind_eq_some_iff.mp h
              refine am_Y.call0 (M' := am_M296) (as := [.int (gi M 132 ((x3 + ((2 : Int32) * x6))).toNatClampNeg), .long (gj M 139 (((x4 + (-1 : Int32)) - (1 : Int32))).toNatClampNeg), .long (gj M 139 ((x4 + (-1 : Int32))).toNatClampNeg)]) (rest := [.int ((x4 + (-1 : Int32)) - (1 : Int32)), .ref 139]) (d' := 1) rfl (by omega) rfl rfl (t_m_two (gi M 132 ((x3 + ((2 : Int32) * x6))).toNatClampNeg) (gj M 139 (((x4 + (-1 : Int32)) - (1 : Int32))).toNatClampNeg) (gj M 139 ((x4 + (-1 : Int32))).toNatClampNeg) M q12 e_q12) ?_
              obtain ⟨g, h⟩ := am_itg h
              refine am_Y.last (a := 134) (n := 330) rfl rfl g ?_
              refine am_Y.run (k := 0) (pc' := _) (lv' := [(4, .int (x4 + (-1 : Int32))), (8, .int (gi M 132 (((x3 + ((2 : Int32) * x6)) + (1 : Int32))).toNatClampNeg)), (7, .int (gi M 132 ((x3 + ((2 : Int32) * x6))).toNatClampNeg)), (0, .ref 129), (2, .int x2), (3, .int x3), (5, .int x5), (6, .int x6)]) (st' := []) (h' := hp (sj M 139 (((x4 + (-1 : Int32)) - (1 : Int32))).toNatClampNeg q12)) rfl ?_
              obtain ⟨q13, e_q13, h⟩ := Option.bind_eq_some_iff.mp h
              rw [Option.some.inj e_q13]
              refine am_Y.run (k := 3) (pc' := 49) (lv' := [(6, .int (x6 + (1 : Int32))), (4, .int (x4 + (-1 : Int32))), (8, .int (gi M 132 (((x3 + ((2 : Int32) * x6)) + (1 : Int32))).toNatClampNeg)), (7, .int (gi M 132 ((x3 + ((2 : Int32) * x6))).toNatClampNeg)), (0, .ref 129), (2, .int x2), (3, .int x3), (5, .int x5)]) (st' := []) (h' := hp q13) rfl ?_
              refine am_Y.weak (lv2 := [(0, .ref 129), (2, .int x2), (3, .int x3), (4, .int (x4 + (-1 : Int32))), (5, .int x5), (6, .int (x6 + (1 : Int32)))]) rfl rfl ⟨rfl, rfl, rfl, rfl, rfl, rfl, trivial⟩ ?_
              exact ih x2 x3 (x4 + (-1 : Int32)) x5 (x6 + (1 : Int32)) q13 _ h
      · replace h := (if_neg hc).symm.trans h
        refine am_Y.run (k := 4) (pc' := 104) (lv' := [(8, .int (gi M 132 (((x3 + ((2 : Int32) * x6)) + (1 : Int32))).toNatClampNeg)), (7, .int (gi M 132 ((x3 + ((2 : Int32) * x6))).toNatClampNeg)), (0, .ref 129), (2, .int x2), (3, .int x3), (4, .int x4), (5, .int x5), (6, .int x6)]) (st' := [.int (gi M 132 ((x3 + ((2 : Int32) * x6))).toNatClampNeg), .int x4, .ref 139]) (h' := hp M) rfl ?_
        refine am_Y.br (c := (gi M 132 ((x3 + ((2 : Int32) * x6))).toNatClampNeg) = (0 : Int32)) _ (t := 107) (u := 113) (lv' := [(8, .int (gi M 132 (((x3 + ((2 : Int32) * x6)) + (1 : Int32))).toNatClampNeg)), (7, .int (gi M 132 ((x3 + ((2 : Int32) * x6))).toNatClampNeg)), (0, .ref 129), (2, .int x2), (3, .int x3), (4, .int x4), (5, .int x5), (6, .int x6)]) (st' := [.int x4, .ref 139]) (h' := hp M) rfl (fun hc => ?_) (fun hc => ?_)
        · replace h := (if_pos hc).symm.trans h
          refine am_Y.run (k := 3) (pc' := 121) (lv' := [(8, .int (gi M 132 (((x3 + ((2 : Int32) * x6)) + (1 : Int32))).toNatClampNeg)), (7, .int (gi M 132 ((x3 + ((2 : Int32) * x6))).toNatClampNeg)), (0, .ref 129), (2, .int x2), (3, .int x3), (4, .int x4), (5, .int x5), (6, .int x6)]) (st' := [.long (Int32.toInt64 (gi M 132 (((x3 + ((2 : Int32) * x6)) + (1 : Int32))).toNatClampNeg)), .int x4, .ref 139]) (h' := hp M) rfl ?_
          obtain ⟨g, h⟩ := am_itg h
          refine am_Y.last (a := 134) (n := 330) rfl rfl g ?_
          refine am_Y.run (k := 0) (pc' := _) (lv' := [(8, .int (gi M 132 (((x3 + ((2 : Int32) * x6)) + (1 : Int32))).toNatClampNeg)), (7, .int (gi M 132 ((x3 + ((2 : Int32) * x6))).toNatClampNeg)), (0, .ref 129), (2, .int x2), (3, .int x3), (4, .int x4), (5, .int x5), (6, .int x6)]) (st' := []) (h' := hp (sj M 139 (x4).toNatClampNeg (Int32.toInt64 (gi M 132 (((x3 + ((2 : Int32) * x6)) + (1 : Int32))).toNatClampNeg)))) rfl ?_
          obtain ⟨q14, e_q14, h⟩ := Option.bind_eq_some_iff.mp h
          rw [Option.some.inj e_q14]
          refine am_Y.run (k := 4) (pc' := 49) (lv' := [(6, .int (x6 + (1 : Int32))), (4, .int (x4 + (1 : Int32))), (8, .int (gi M 132 (((x3 + ((2 : Int32) * x6)) + (1 : Int32))).toNatClampNeg)), (7, .int (gi M 132 ((x3 + ((2 : Int32) * x6))).toNatClampNeg)), (0, .ref 129), (2, .int x2), (3, .int x3), (5, .int x5)]) (st' := []) (h' := hp q14) rfl ?_
          refine am_Y.weak (lv2 := [(0, .ref 129), (2, .int x2), (3, .int x3), (4, .int (x4 + (1 : Int32))), (5, .int x5), (6, .int (x6 + (1 : Int32)))]) rfl rfl ⟨rfl, rfl, rfl, rfl, rfl, rfl, trivial⟩ ?_
          exact ih x2 x3 (x4 + (1 : Int32)) x5 (x6 + (1 : Int32)) q14 _ h
        · replace h := (if_neg hc).symm.trans h
          refine am_Y.run (k := 3) (pc' := 119) (lv' := [(8, .int (gi M 132 (((x3 + ((2 : Int32) * x6)) + (1 : Int32))).toNatClampNeg)), (7, .int (gi M 132 ((x3 + ((2 : Int32) * x6))).toNatClampNeg)), (0, .ref 129), (2, .int x2), (3, .int x3), (4, .int x4), (5, .int x5), (6, .int x6)]) (st' := [.int (gi M 132 (((x3 + ((2 : Int32) * x6)) + (1 : Int32))).toNatClampNeg), .ref 138, .int x4, .ref 139]) (h' := hp M) rfl ?_
          obtain ⟨g, h⟩ := am_itg h
          refine am_Y.iald (a := 133) (n := 12) rfl rfl g ?_
          refine am_Y.run (k := 1) (pc' := 121) (lv' := [(8, .int (gi M 132 (((x3 + ((2 : Int32) * x6)) + (1 : Int32))).toNatClampNeg)), (7, .int (gi M 132 ((x3 + ((2 : Int32) * x6))).toNatClampNeg)), (0, .ref 129), (2, .int x2), (3, .int x3), (4, .int x4), (5, .int x5), (6, .int x6)]) (st' := [.long (Int32.toInt64 (gi M 138 ((gi M 132 (((x3 + ((2 : Int32) * x6)) + (1 : Int32))).toNatClampNeg)).toNatClampNeg)), .int x4, .ref 139]) (h' := hp M) rfl ?_
          obtain ⟨g, h⟩ := am_itg h
          refine am_Y.last (a := 134) (n := 330) rfl rfl g ?_
          refine am_Y.run (k := 0) (pc' := _) (lv' := [(8, .int (gi M 132 (((x3 + ((2 : Int32) * x6)) + (1 : Int32))).toNatClampNeg)), (7, .int (gi M 132 ((x3 + ((2 : Int32) * x6))).toNatClampNeg)), (0, .ref 129), (2, .int x2), (3, .int x3), (4, .int x4), (5, .int x5), (6, .int x6)]) (st' := []) (h' := hp (sj M 139 (x4).toNatClampNeg (Int32.toInt64 (gi M 138 ((gi M 132 (((x3 + ((2 : Int32) * x6)) + (1 : Int32))).toNatClampNeg)).toNatClampNeg)))) rfl ?_
          obtain ⟨q15, e_q15, h⟩ := Option.bind_eq_some_iff.mp h
          rw [Option.some.inj e_q15]
          refine am_Y.run (k := 4) (pc' := 49) (lv' := [(6, .int (x6 + (1 : Int32))), (4, .int (x4 + (1 : Int32))), (8, .int (gi M 132 (((x3 + ((2 : Int32) * x6)) + (1 : Int32))).toNatClampNeg)), (7, .int (gi M 132 ((x3 + ((2 : Int32) * x6))).toNatClampNeg)), (0, .ref 129), (2, .int x2), (3, .int x3), (5, .int x5)]) (st' := []) (h' := hp q15) rfl ?_
          refine am_Y.weak (lv2 := [(0, .ref 129), (2, .int x2), (3, .int x3), (4, .int (x4 + (1 : Int32))), (5, .int x5), (6, .int (x6 + (1 : Int32)))]) rfl rfl ⟨rfl, rfl, rfl, rfl, rfl, rfl, trivial⟩ ?_
          exact ih x2 x3 (x4 + (1 : Int32)) x5 (x6 + (1 : Int32)) q15 _ h
set_option maxRecDepth 100000 in
theorem t_m_work {S : Nat × (Nat → Int32)} (N : Nat) (x1 : Int32) (M : Mem) (M' : Mem) (h : f_m_work N x1 M = some M') : am_Y S 2 0 0 am_M248 0 [(0, .ref 129), (1, .int x1)] [] (hp M) none (hp M') := by
  rw [f_m_work] at h
  refine am_Y.run (k := 31) (pc' := 46) (lv' := [(5, .int (0 : Int32)), (4, .int (0 : Int32)), (3, .int (((705 : Int32) * (gi M 130 6)) + (97 : Int32))), (2, .int ((((705 : Int32) * (gi M 130 6)) + (1 : Int32)) + ((4 : Int32) * x1))), (0, .ref 129), (1, .int x1)]) (st' := [.int (((((705 : Int32) * (gi M 130 6)) + (1 : Int32)) + ((4 : Int32) * x1)) + (1 : Int32)), .ref 132]) (h' := hp M) rfl ?_
  obtain ⟨g, h⟩ := am_itg h
  refine am_Y.iald (a := 127) (n := 2820) rfl rfl g ?_
  refine am_Y.run (k := 1) (pc' := 49) (lv' := [(6, .int (gi M 132 ((((((705 : Int32) * (gi M 130 6)) + (1 : Int32)) + ((4 : Int32) * x1)) + (1 : Int32))).toNatClampNeg)), (5, .int (0 : Int32)), (4, .int (0 : Int32)), (3, .int (((705 : Int32) * (gi M 130 6)) + (97 : Int32))), (2, .int ((((705 : Int32) * (gi M 130 6)) + (1 : Int32)) + ((4 : Int32) * x1))), (0, .ref 129), (1, .int x1)]) (st' := []) (h' := hp M) rfl ?_
  refine am_Y.weak (lv2 := [(0, .ref 129), (2, .int ((((705 : Int32) * (gi M 130 6)) + (1 : Int32)) + ((4 : Int32) * x1))), (3, .int (((705 : Int32) * (gi M 130 6)) + (97 : Int32))), (4, .int (0 : Int32)), (5, .int (0 : Int32)), (6, .int (gi M 132 ((((((705 : Int32) * (gi M 130 6)) + (1 : Int32)) + ((4 : Int32) * x1)) + (1 : Int32))).toNatClampNeg))]) rfl rfl ⟨rfl, rfl, rfl, rfl, rfl, rfl, trivial⟩ ?_
  exact t_m_work_49 N N ((((705 : Int32) * (gi M 130 6)) + (1 : Int32)) + ((4 : Int32) * x1)) (((705 : Int32) * (gi M 130 6)) + (97 : Int32)) (0 : Int32) (0 : Int32) (gi M 132 ((((((705 : Int32) * (gi M 130 6)) + (1 : Int32)) + ((4 : Int32) * x1)) + (1 : Int32))).toNatClampNeg) M _ h
set_option maxRecDepth 100000 in
theorem t_m_says {S : Nat × (Nat → Int32)} (N : Nat) (x1 : Int32) (x2 : Int32) (x3 : Int32) (M : Mem) (r : Int32) (M' : Mem) (h : f_m_says N x1 x2 x3 M = some (r, M')) : am_Y S 3 0 0 am_M249 0 [(0, .ref 129), (1, .int x1), (2, .int x2), (3, .int x3)] [] (hp M) (some (.int r)) (hp M') := by
  rw [f_m_says] at h
  refine am_Y.run (k := 2) (pc' := 2) (lv' := [(0, .ref 129), (1, .int x1), (2, .int x2), (3, .int x3)]) (st' := [.int x1, .ref 129]) (h' := hp M) rfl ?_
  obtain ⟨q1, e_q1, h⟩ := Option.bind_eq_some_iff.mp h
  refine am_Y.call0 (M' := am_M247) (as := [.ref 129, .int x1]) (rest := []) (d' := 0) rfl (by omega) rfl rfl (t_m_clauseOf N x1 M q1 e_q1) ?_
  refine am_Y.run (k := 2) (pc' := 9) (lv' := [(4, .int q1), (0, .ref 129), (1, .int x1), (2, .int x2), (3, .int x3)]) (st' := [.int q1]) (h' := hp M) rfl ?_
  refine am_Y.br (c := (0 : Int32) ≤ q1) _ (t := 14) (u := 12) (lv' := [(4, .int q1), (0, .ref 129), (1, .int x1), (2, .int x2), (3, .int x3)]) (st' := []) (h' := hp M) rfl (fun hc => ?_) (fun hc => ?_)
  · replace h := (if_pos hc).symm.trans h
    refine am_Y.run (k := 2) (pc' := 17) (lv' := [(4, .int q1), (0, .ref 129), (1, .int x1), (2, .int x2), (3, .int x3)]) (st' := [.int q1, .ref 129]) (h' := hp M) rfl ?_
    obtain ⟨q2, e_q2, h⟩ := Option.bind_eq_some_iff.mp h
    refine am_Y.call0 (M' := am_M248) (as := [.ref 129, .int q1]) (rest := []) (d' := 2) rfl (by omega) rfl rfl (t_m_work N q1 M q2 e_q2) ?_
    refine am_Y.run (k := 6) (pc' := 28) (lv' := [(4, .int q1), (0, .ref 129), (1, .int x1), (2, .int x2), (3, .int x3)]) (st' := [.int (lg_cmp (gj q2 139 0) (0 : Int64))]) (h' := hp q2) rfl ?_
    refine am_Y.br (c := (0 : Int32) ≤ (lg_cmp (gj q2 139 0) (0 : Int64))) _ (t := 35) (u := 31) (lv' := [(4, .int q1), (0, .ref 129), (1, .int x1), (2, .int x2), (3, .int x3)]) (st' := []) (h' := hp q2) rfl (fun hc => ?_) (fun hc => ?_)
    · replace h := (if_pos hc).symm.trans h
      refine am_Y.run (k := 7) (pc' := 44) (lv' := [(4, .int q1), (0, .ref 129), (1, .int x1), (2, .int x2), (3, .int x3)]) (st' := [.int (lg_cmp (gj q2 139 0) (Int32.toInt64 x3))]) (h' := hp q2) rfl ?_
      refine am_Y.br (c := (lg_cmp (gj q2 139 0) (Int32.toInt64 x3)) ≤ (0 : Int32)) _ (t := 51) (u := 47) (lv' := [(4, .int q1), (0, .ref 129), (1, .int x1), (2, .int x2), (3, .int x3)]) (st' := []) (h' := hp q2) rfl (fun hc => ?_) (fun hc => ?_)
      · replace h := (if_pos hc).symm.trans h
        refine am_Y.run (k := 5) (pc' := 58) (lv' := [(4, .int q1), (0, .ref 129), (1, .int x1), (2, .int x2), (3, .int x3)]) (st' := [.int (Int64.toInt32 (gj q2 139 0))]) (h' := hp q2) rfl ?_
        obtain ⟨rfl, rfl⟩ := Prod.mk.inj (Option.some.inj h)
        exact am_Y.ret rfl
      · replace h := (if_neg hc).symm.trans h
        refine am_Y.run (k := 2) (pc' := 58) (lv' := [(4, .int q1), (0, .ref 129), (1, .int x1), (2, .int x2), (3, .int x3)]) (st' := [.int x3]) (h' := hp q2) rfl ?_
        obtain ⟨rfl, rfl⟩ := Prod.mk.inj (Option.some.inj h)
        exact am_Y.ret rfl
    · replace h := (if_neg hc).symm.trans h
      refine am_Y.run (k := 2) (pc' := 58) (lv' := [(4, .int q1), (0, .ref 129), (1, .int x1), (2, .int x2), (3, .int x3)]) (st' := [.int (0 : Int32)]) (h' := hp q2) rfl ?_
      obtain ⟨rfl, rfl⟩ := Prod.mk.inj (Option.some.inj h)
      exact am_Y.ret rfl
  · replace h := (if_neg hc).symm.trans h
    refine am_Y.run (k := 1) (pc' := 13) (lv' := [(4, .int q1), (0, .ref 129), (1, .int x1), (2, .int x2), (3, .int x3)]) (st' := [.int x2]) (h' := hp M) rfl ?_
    obtain ⟨rfl, rfl⟩ := Prod.mk.inj (Option.some.inj h)
    exact am_Y.ret rfl
set_option maxRecDepth 100000 in
theorem t_m_wouldFall_180 {S : Nat × (Nat → Int32)} (N : Nat) (x1 : Int32) (M : Mem) (r : Int32) (M' : Mem) (h : f_m_wouldFall_180 N x1 M = some (r, M')) : am_Y S 4 0 0 am_M145 180 [(0, .ref 129), (1, .int x1)] [] (hp M) (some (.int r)) (hp M') := by
  rw [f_m_wouldFall_180] at h
  refine am_Y.run (k := 9) (pc' := 191) (lv' := [(0, .ref 129), (1, .int x1)]) (st' := [.int (1 : Int32), .int x1, .ref 129, .int (1 : Int32), .ref 129, .int (gi M 130 2)]) (h' := hp M) rfl ?_
  obtain ⟨q21, e_q21, h⟩ := Option.bind_eq_some_iff.mp h
  refine am_Y.call0 (M' := am_M146) (as := [.ref 129, .int x1, .int (1 : Int32)]) (rest := [.int (1 : Int32), .ref 129, .int (gi M 130 2)]) (d' := 0) rfl (by omega) rfl rfl (t_m_get x1 (1 : Int32) M q21 e_q21) ?_
  refine am_Y.run (k := 1) (pc' := 195) (lv' := [(0, .ref 129), (1, .int x1)]) (st' := [.int (3 : Int32), .int q21, .int (1 : Int32), .ref 129, .int (gi M 130 2)]) (h' := hp M) rfl ?_
  refine am_Y.br (c := (3 : Int32) ≤ q21) _ (t := 202) (u := 198) (lv' := [(0, .ref 129), (1, .int x1)]) (st' := [.int (1 : Int32), .ref 129, .int (gi M 130 2)]) (h' := hp M) rfl (fun hc => ?_) (fun hc => ?_)
  · replace h := (if_pos hc).symm.trans h
    refine am_Y.run (k := 2) (pc' := 205) (lv' := [(0, .ref 129), (1, .int x1)]) (st' := [.int (99 : Int32), .int (0 : Int32), .int (1 : Int32), .ref 129, .int (gi M 130 2)]) (h' := hp M) rfl ?_
    obtain ⟨q22, e_q22, h⟩ := Option.bind_eq_some_iff.mp h
    refine am_Y.call0 (M' := am_M249) (as := [.ref 129, .int (1 : Int32), .int (0 : Int32), .int (99 : Int32)]) (rest := [.int (gi M 130 2)]) (d' := 3) rfl (by omega) rfl rfl (t_m_says N (1 : Int32) (0 : Int32) (99 : Int32) M q22.1 q22.2 e_q22) ?_
    refine am_Y.run (k := 1) (pc' := 209) (lv' := [(0, .ref 129), (1, .int x1)]) (st' := [.int ((gi M 130 2) + q22.1)]) (h' := hp q22.2) rfl ?_
    obtain ⟨rfl, rfl⟩ := Prod.mk.inj (Option.some.inj h)
    exact am_Y.ret rfl
  · replace h := (if_neg hc).symm.trans h
    refine am_Y.run (k := 3) (pc' := 205) (lv' := [(0, .ref 129), (1, .int x1)]) (st' := [.int (99 : Int32), .int (3 : Int32), .int (1 : Int32), .ref 129, .int (gi M 130 2)]) (h' := hp M) rfl ?_
    obtain ⟨q23, e_q23, h⟩ := Option.bind_eq_some_iff.mp h
    refine am_Y.call0 (M' := am_M249) (as := [.ref 129, .int (1 : Int32), .int (3 : Int32), .int (99 : Int32)]) (rest := [.int (gi M 130 2)]) (d' := 3) rfl (by omega) rfl rfl (t_m_says N (1 : Int32) (3 : Int32) (99 : Int32) M q23.1 q23.2 e_q23) ?_
    refine am_Y.run (k := 1) (pc' := 209) (lv' := [(0, .ref 129), (1, .int x1)]) (st' := [.int ((gi M 130 2) + q23.1)]) (h' := hp q23.2) rfl ?_
    obtain ⟨rfl, rfl⟩ := Prod.mk.inj (Option.some.inj h)
    exact am_Y.ret rfl
set_option maxRecDepth 100000 in
theorem t_m_wouldFall_153 {S : Nat × (Nat → Int32)} (N : Nat) (x1 : Int32) (s1 : Int32) (s2 : Int32) (M : Mem) (r : Int32) (M' : Mem) (h : f_m_wouldFall_153 N x1 s1 s2 M = some (r, M')) : am_Y S 4 0 0 am_M145 153 [(0, .ref 129), (1, .int x1)] [.int s2, .int s1, .ref 138] (hp M) (some (.int r)) (hp M') := by
  rw [f_m_wouldFall_153] at h
  obtain ⟨g, h⟩ := am_itg h
  refine am_Y.iast (a := 133) (n := 12) rfl rfl g ?_
  refine am_Y.run (k := 0) (pc' := _) (lv' := [(0, .ref 129), (1, .int x1)]) (st' := []) (h' := hp (si M 138 (s1).toNatClampNeg s2)) rfl ?_
  obtain ⟨q18, e_q18, h⟩ := Option.bind_eq_some_iff.mp h
  rw [Option.some.inj e_q18]
  refine am_Y.run (k := 2) (pc' := 156) (lv' := [(0, .ref 129), (1, .int x1)]) (st' := [.int (0 : Int32), .ref 129]) (h' := hp q18) rfl ?_
  obtain ⟨q19, e_q19, h⟩ := Option.bind_eq_some_iff.mp h
  refine am_Y.call0 (M' := am_M247) (as := [.ref 129, .int (0 : Int32)]) (rest := []) (d' := 0) rfl (by omega) rfl rfl (t_m_clauseOf N (0 : Int32) q18 q19 e_q19) ?_
  refine am_Y.run (k := 2) (pc' := 161) (lv' := [(3, .int q19), (0, .ref 129), (1, .int x1)]) (st' := [.int q19]) (h' := hp q18) rfl ?_
  refine am_Y.br (c := q19 < (0 : Int32)) _ (t := 180) (u := 164) (lv' := [(3, .int q19), (0, .ref 129), (1, .int x1)]) (st' := []) (h' := hp q18) rfl (fun hc => ?_) (fun hc => ?_)
  · replace h := (if_pos hc).symm.trans h
    refine am_Y.weak (lv2 := [(0, .ref 129), (1, .int x1)]) rfl rfl ⟨rfl, rfl, trivial⟩ ?_
    exact t_m_wouldFall_180 N x1 q18 _ _ h
  · replace h := (if_neg hc).symm.trans h
    refine am_Y.run (k := 2) (pc' := 166) (lv' := [(3, .int q19), (0, .ref 129), (1, .int x1)]) (st' := [.int q19, .ref 129]) (h' := hp q18) rfl ?_
    obtain ⟨q20, e_q20, h⟩ := Option.bind_eq_some_iff.mp h
    refine am_Y.call0 (M' := am_M248) (as := [.ref 129, .int q19]) (rest := []) (d' := 2) rfl (by omega) rfl rfl (t_m_work N q19 q18 q20 e_q20) ?_
    refine am_Y.run (k := 4) (pc' := 175) (lv' := [(3, .int q19), (0, .ref 129), (1, .int x1)]) (st' := [.int (gi q20 140 0)]) (h' := hp q20) rfl ?_
    refine am_Y.br (c := (gi q20 140 0) = (0 : Int32)) _ (t := 178) (u := 180) (lv' := [(3, .int q19), (0, .ref 129), (1, .int x1)]) (st' := []) (h' := hp q20) rfl (fun hc => ?_) (fun hc => ?_)
    · replace h := (if_pos hc).symm.trans h
      refine am_Y.run (k := 1) (pc' := 179) (lv' := [(3, .int q19), (0, .ref 129), (1, .int x1)]) (st' := [.int (-1 : Int32)]) (h' := hp q20) rfl ?_
      obtain ⟨rfl, rfl⟩ := Prod.mk.inj (Option.some.inj h)
      exact am_Y.ret rfl
    · replace h := (if_neg hc).symm.trans h
      refine am_Y.weak (lv2 := [(0, .ref 129), (1, .int x1)]) rfl rfl ⟨rfl, rfl, trivial⟩ ?_
      exact t_m_wouldFall_180 N x1 q20 _ _ h
set_option maxRecDepth 100000 in
theorem t_m_wouldFall_116 {S : Nat × (Nat → Int32)} (N : Nat) (x1 : Int32) (s1 : Int32) (s2 : Int32) (M : Mem) (r : Int32) (M' : Mem) (h : f_m_wouldFall_116 N x1 s1 s2 M = some (r, M')) : am_Y S 4 0 0 am_M145 116 [(0, .ref 129), (1, .int x1)] [.int s2, .int s1, .ref 138] (hp M) (some (.int r)) (hp M') := by
  rw [f_m_wouldFall_116] at h
  obtain ⟨g, h⟩ := am_itg h
  refine am_Y.iast (a := 133) (n := 12) rfl rfl g ?_
  refine am_Y.run (k := 0) (pc' := _) (lv' := [(0, .ref 129), (1, .int x1)]) (st' := []) (h' := hp (si M 138 (s1).toNatClampNeg s2)) rfl ?_
  obtain ⟨q13, e_q13, h⟩ := Option.bind_eq_some_iff.mp h
  rw [Option.some.inj e_q13]
  refine am_Y.run (k := 4) (pc' := 124) (lv' := [(0, .ref 129), (1, .int x1)]) (st' := [.ref 129, .int (8 : Int32), .ref 138]) (h' := hp q13) rfl ?_
  obtain ⟨q14, e_q14, h⟩ := Option.bind_eq_some_iff.mp h
  refine am_Y.call0 (M' := am_M200) (as := [.ref 129]) (rest := [.int (8 : Int32), .ref 138]) (d' := 2) rfl (by omega) rfl rfl (t_m_there N q13 q14 e_q14) ?_
  obtain ⟨q15, e_q15, h⟩ := Option.bind_eq_some_iff.mp h
  refine am_Y.call0 (M' := am_M177) (as := [.int q14]) (rest := [.int (8 : Int32), .ref 138]) (d' := 0) rfl (by omega) rfl rfl (t_m_bits N q14 q13 q15 e_q15) ?_
  refine am_Y.run (k := 1) (pc' := 131) (lv' := [(0, .ref 129), (1, .int x1)]) (st' := []) (h' := hp (si q13 138 8 q15)) rfl ?_
  obtain ⟨q16, e_q16, h⟩ := Option.bind_eq_some_iff.mp h
  rw [Option.some.inj e_q16]
  refine am_Y.run (k := 4) (pc' := 138) (lv' := [(0, .ref 129), (1, .int x1)]) (st' := [.ref 129, .int (9 : Int32), .ref 138]) (h' := hp q16) rfl ?_
  obtain ⟨q17, e_q17, h⟩ := Option.bind_eq_some_iff.mp h
  refine am_Y.call0 (M' := am_M150) (as := [.ref 129]) (rest := [.int (9 : Int32), .ref 138]) (d' := 2) rfl (by omega) rfl rfl (t_m_holdNow N q16 q17.1 q17.2 e_q17) ?_
  refine am_Y.run (k := 1) (pc' := 142) (lv' := [(0, .ref 129), (1, .int x1)]) (st' := [.int x1, .int q17.1, .int (9 : Int32), .ref 138]) (h' := hp q17.2) rfl ?_
  refine am_Y.call0 (M' := am_M175) (as := [.int q17.1, .int x1]) (rest := [.int (9 : Int32), .ref 138]) (d' := 0) rfl (by omega) rfl rfl (t_m_has q17.1 x1 q17.2 _ rfl) ?_
  refine am_Y.br (c := (f_m_has q17.1 x1 q17.2) = (0 : Int32)) _ (t := 152) (u := 148) (lv' := [(0, .ref 129), (1, .int x1)]) (st' := [.int (9 : Int32), .ref 138]) (h' := hp q17.2) rfl (fun hc => ?_) (fun hc => ?_)
  · replace h := (if_pos hc).symm.trans h
    refine am_Y.run (k := 1) (pc' := 153) (lv' := [(0, .ref 129), (1, .int x1)]) (st' := [.int (0 : Int32), .int (9 : Int32), .ref 138]) (h' := hp q17.2) rfl ?_
    refine am_Y.weak (lv2 := [(0, .ref 129), (1, .int x1)]) rfl rfl ⟨rfl, rfl, trivial⟩ ?_
    exact t_m_wouldFall_153 N x1 (9 : Int32) (0 : Int32) q17.2 _ _ h
  · replace h := (if_neg hc).symm.trans h
    refine am_Y.run (k := 2) (pc' := 153) (lv' := [(0, .ref 129), (1, .int x1)]) (st' := [.int (1 : Int32), .int (9 : Int32), .ref 138]) (h' := hp q17.2) rfl ?_
    refine am_Y.weak (lv2 := [(0, .ref 129), (1, .int x1)]) rfl rfl ⟨rfl, rfl, trivial⟩ ?_
    exact t_m_wouldFall_153 N x1 (9 : Int32) (1 : Int32) q17.2 _ _ h
set_option maxRecDepth 100000 in
theorem t_m_wouldFall {S : Nat × (Nat → Int32)} (N : Nat) (x1 : Int32) (x2 : Int32) (M : Mem) (r : Int32) (M' : Mem) (h : f_m_wouldFall N x1 x2 M = some (r, M')) : am_Y S 4 0 0 am_M145 0 [(0, .ref 129), (1, .int x1), (2, .int x2)] [] (hp M) (some (.int r)) (hp M') := by
  rw [f_m_wouldFall] at h
  refine am_Y.run (k := 8) (pc' := 12) (lv' := [(0, .ref 129), (1, .int x1), (2, .int x2)]) (st' := []) (h' := hp (si M 138 0 (gi M 130 1))) rfl ?_
  obtain ⟨q1, e_q1, h⟩ := Option.bind_eq_some_iff.mp h
  rw [Option.some.inj e_q1]
  refine am_Y.run (k := 8) (pc' := 24) (lv' := [(0, .ref 129), (1, .int x1), (2, .int x2)]) (st' := []) (h' := hp (si q1 138 1 (gi q1 130 2))) rfl ?_
  obtain ⟨q2, e_q2, h⟩ := Option.bind_eq_some_iff.mp h
  rw [Option.some.inj e_q2]
  refine am_Y.run (k := 8) (pc' := 36) (lv' := [(0, .ref 129), (1, .int x1), (2, .int x2)]) (st' := []) (h' := hp (si q2 138 2 (gi q2 130 3))) rfl ?_
  obtain ⟨q3, e_q3, h⟩ := Option.bind_eq_some_iff.mp h
  rw [Option.some.inj e_q3]
  refine am_Y.run (k := 6) (pc' := 44) (lv' := [(0, .ref 129), (1, .int x1), (2, .int x2)]) (st' := [.int (0 : Int32), .int x1, .ref 129, .int (3 : Int32), .ref 138]) (h' := hp q3) rfl ?_
  obtain ⟨q4, e_q4, h⟩ := Option.bind_eq_some_iff.mp h
  refine am_Y.call0 (M' := am_M146) (as := [.ref 129, .int x1, .int (0 : Int32)]) (rest := [.int (3 : Int32), .ref 138]) (d' := 0) rfl (by omega) rfl rfl (t_m_get x1 (0 : Int32) q3 q4 e_q4) ?_
  refine am_Y.run (k := 1) (pc' := 48) (lv' := [(0, .ref 129), (1, .int x1), (2, .int x2)]) (st' := []) (h' := hp (si q3 138 3 q4)) rfl ?_
  obtain ⟨q5, e_q5, h⟩ := Option.bind_eq_some_iff.mp h
  rw [Option.some.inj e_q5]
  refine am_Y.run (k := 6) (pc' := 56) (lv' := [(0, .ref 129), (1, .int x1), (2, .int x2)]) (st' := [.int (1 : Int32), .int x1, .ref 129, .int (4 : Int32), .ref 138]) (h' := hp q5) rfl ?_
  obtain ⟨q6, e_q6, h⟩ := Option.bind_eq_some_iff.mp h
  refine am_Y.call0 (M' := am_M146) (as := [.ref 129, .int x1, .int (1 : Int32)]) (rest := [.int (4 : Int32), .ref 138]) (d' := 0) rfl (by omega) rfl rfl (t_m_get x1 (1 : Int32) q5 q6 e_q6) ?_
  refine am_Y.run (k := 1) (pc' := 60) (lv' := [(0, .ref 129), (1, .int x1), (2, .int x2)]) (st' := []) (h' := hp (si q5 138 4 q6)) rfl ?_
  obtain ⟨q7, e_q7, h⟩ := Option.bind_eq_some_iff.mp h
  rw [Option.some.inj e_q7]
  refine am_Y.run (k := 5) (pc' := 67) (lv' := [(0, .ref 129), (1, .int x1), (2, .int x2)]) (st' := []) (h' := hp (si q7 138 5 x2)) rfl ?_
  obtain ⟨q8, e_q8, h⟩ := Option.bind_eq_some_iff.mp h
  rw [Option.some.inj e_q8]
  refine am_Y.run (k := 6) (pc' := 76) (lv' := [(0, .ref 129), (1, .int x1), (2, .int x2)]) (st' := [.int (4 : Int32), .int x1, .ref 129, .int (6 : Int32), .ref 138]) (h' := hp q8) rfl ?_
  obtain ⟨q9, e_q9, h⟩ := Option.bind_eq_some_iff.mp h
  refine am_Y.call0 (M' := am_M146) (as := [.ref 129, .int x1, .int (4 : Int32)]) (rest := [.int (6 : Int32), .ref 138]) (d' := 0) rfl (by omega) rfl rfl (t_m_get x1 (4 : Int32) q8 q9 e_q9) ?_
  refine am_Y.run (k := 1) (pc' := 80) (lv' := [(0, .ref 129), (1, .int x1), (2, .int x2)]) (st' := []) (h' := hp (si q8 138 6 q9)) rfl ?_
  obtain ⟨q10, e_q10, h⟩ := Option.bind_eq_some_iff.mp h
  rw [Option.some.inj e_q10]
  refine am_Y.run (k := 6) (pc' := 90) (lv' := [(0, .ref 129), (1, .int x1), (2, .int x2)]) (st' := [.int (6 : Int32), .int x1, .ref 129, .int (7 : Int32), .ref 138]) (h' := hp q10) rfl ?_
  obtain ⟨q11, e_q11, h⟩ := Option.bind_eq_some_iff.mp h
  refine am_Y.call0 (M' := am_M146) (as := [.ref 129, .int x1, .int (6 : Int32)]) (rest := [.int (7 : Int32), .ref 138]) (d' := 0) rfl (by omega) rfl rfl (t_m_get x1 (6 : Int32) q10 q11 e_q11) ?_
  refine am_Y.run (k := 1) (pc' := 94) (lv' := [(0, .ref 129), (1, .int x1), (2, .int x2)]) (st' := [.int (-1 : Int32), .int q11, .int (7 : Int32), .ref 138]) (h' := hp q10) rfl ?_
  refine am_Y.br (c := q11 = (-1 : Int32)) _ (t := 97) (u := 102) (lv' := [(0, .ref 129), (1, .int x1), (2, .int x2)]) (st' := [.int (7 : Int32), .ref 138]) (h' := hp q10) rfl (fun hc => ?_) (fun hc => ?_)
  · replace h := (if_pos hc).symm.trans h
    refine am_Y.run (k := 2) (pc' := 116) (lv' := [(0, .ref 129), (1, .int x1), (2, .int x2)]) (st' := [.int (99 : Int32), .int (7 : Int32), .ref 138]) (h' := hp q10) rfl ?_
    refine am_Y.weak (lv2 := [(0, .ref 129), (1, .int x1)]) rfl rfl ⟨rfl, rfl, trivial⟩ ?_
    exact t_m_wouldFall_116 N x1 (7 : Int32) (99 : Int32) q10 _ _ h
  · replace h := (if_neg hc).symm.trans h
    refine am_Y.run (k := 7) (pc' := 112) (lv' := [(0, .ref 129), (1, .int x1), (2, .int x2)]) (st' := [.int (6 : Int32), .int x1, .ref 129, .int (gi q10 130 2), .int (7 : Int32), .ref 138]) (h' := hp q10) rfl ?_
    obtain ⟨q12, e_q12, h⟩ := Option.bind_eq_some_iff.mp h
    refine am_Y.call0 (M' := am_M146) (as := [.ref 129, .int x1, .int (6 : Int32)]) (rest := [.int (gi q10 130 2), .int (7 : Int32), .ref 138]) (d' := 0) rfl (by omega) rfl rfl (t_m_get x1 (6 : Int32) q10 q12 e_q12) ?_
    refine am_Y.run (k := 1) (pc' := 116) (lv' := [(0, .ref 129), (1, .int x1), (2, .int x2)]) (st' := [.int ((gi q10 130 2) - q12), .int (7 : Int32), .ref 138]) (h' := hp q10) rfl ?_
    refine am_Y.weak (lv2 := [(0, .ref 129), (1, .int x1)]) rfl rfl ⟨rfl, rfl, trivial⟩ ?_
    exact t_m_wouldFall_116 N x1 (7 : Int32) ((gi q10 130 2) - q12) q10 _ _ h
set_option maxRecDepth 100000 in
theorem t_m_packed {S : Nat × (Nat → Int32)} (x0 : Int32) (x1 : Int32) (x2 : Int32) (x3 : Int32) (M : Mem) (r : Int32) (h : f_m_packed x0 x1 x2 x3 M = r) : am_Y S 0 0 0 am_M231 0 [(0, .int x0), (1, .int x1), (2, .int x2), (3, .int x3)] [] (hp M) (some (.int r)) (hp M) := by
  rw [f_m_packed] at h
  refine am_Y.run (k := 15) (pc' := 19) (lv' := [(0, .int x0), (1, .int x1), (2, .int x2), (3, .int x3)]) (st' := [.int (((((((x0 * (16 : Int32)) + x1) * (8 : Int32)) + x2) * (256 : Int32)) + x3) + (1 : Int32))]) (h' := hp M) rfl ?_
  subst h
  exact am_Y.ret rfl
set_option maxRecDepth 100000 in
theorem t_m_log1 {S : Nat × (Nat → Int32)} (x1 : Int32) (x2 : Int32) (x3 : Int32) (M : Mem) (M' : Mem) (h : f_m_log1 x1 x2 x3 M = some M') : am_Y S 1 0 0 am_M123 0 [(0, .ref 129), (1, .int x1), (2, .int x2), (3, .int x3)] [] (hp M) none (hp M') := by
  rw [f_m_log1] at h
  refine am_Y.run (k := 15) (pc' := 23) (lv' := [(0, .ref 129), (1, .int x1), (2, .int x2), (3, .int x3)]) (st' := [.int x3, .int x2, .int x1, .int (gi M 130 2), .int ((68 : Int32) + (gi M 130 8)), .ref 130]) (h' := hp M) rfl ?_
  refine am_Y.call0 (M' := am_M231) (as := [.int (gi M 130 2), .int x1, .int x2, .int x3]) (rest := [.int ((68 : Int32) + (gi M 130 8)), .ref 130]) (d' := 0) rfl (by omega) rfl rfl (t_m_packed (gi M 130 2) x1 x2 x3 M _ rfl) ?_
  obtain ⟨g, h⟩ := am_itg h
  refine am_Y.iast (a := 125) (n := 3826) rfl rfl g ?_
  refine am_Y.run (k := 0) (pc' := _) (lv' := [(0, .ref 129), (1, .int x1), (2, .int x2), (3, .int x3)]) (st' := []) (h' := hp (si M 130 (((68 : Int32) + (gi M 130 8))).toNatClampNeg (f_m_packed (gi M 130 2) x1 x2 x3 M))) rfl ?_
  obtain ⟨q1, e_q1, h⟩ := Option.bind_eq_some_iff.mp h
  rw [Option.some.inj e_q1]
  refine am_Y.run (k := 8) (pc' := 38) (lv' := [(0, .ref 129), (1, .int x1), (2, .int x2), (3, .int x3)]) (st' := []) (h' := hp (si q1 130 8 ((gi q1 130 8) + (1 : Int32)))) rfl ?_
  obtain ⟨q2, e_q2, h⟩ := Option.bind_eq_some_iff.mp h
  rw [Option.some.inj e_q2]
  obtain rfl := Option.some.inj h
  exact am_Y.ret rfl
set_option maxRecDepth 100000 in
theorem t_m_sayNow {S : Nat × (Nat → Int32)} (N : Nat) (x1 : Int32) (x2 : Int32) (M : Mem) (r : Int32) (M' : Mem) (h : f_m_sayNow N x1 x2 M = some (r, M')) : am_Y S 5 0 0 am_M118 0 [(0, .ref 129), (1, .int x1), (2, .int x2)] [] (hp M) (some (.int r)) (hp M') := by
  rw [f_m_sayNow] at h
  refine am_Y.run (k := 3) (pc' := 3) (lv' := [(0, .ref 129), (1, .int x1), (2, .int x2)]) (st' := [.int x2, .int x1, .ref 129]) (h' := hp M) rfl ?_
  obtain ⟨q1, e_q1, h⟩ := Option.bind_eq_some_iff.mp h
  refine am_Y.call0 (M' := am_M145) (as := [.ref 129, .int x1, .int x2]) (rest := []) (d' := 4) rfl (by omega) rfl rfl (t_m_wouldFall N x1 x2 M q1.1 q1.2 e_q1) ?_
  refine am_Y.run (k := 5) (pc' := 11) (lv' := [(3, .int q1.1), (0, .ref 129), (1, .int x1), (2, .int x2)]) (st' := [.int q1.1, .int x2, .int x1, .ref 129]) (h' := hp q1.2) rfl ?_
  obtain ⟨q2, e_q2, h⟩ := Option.bind_eq_some_iff.mp h
  refine am_Y.call0 (M' := am_M123) (as := [.ref 129, .int x1, .int x2, .int q1.1]) (rest := []) (d' := 1) rfl (by omega) rfl rfl (t_m_log1 x1 x2 q1.1 q1.2 q2 e_q2) ?_
  refine am_Y.run (k := 6) (pc' := 20) (lv' := [(3, .int q1.1), (0, .ref 129), (1, .int x1), (2, .int x2)]) (st' := [.int (4 : Int32), .int x1, .ref 129, .int (4 : Int32), .int x1, .ref 129]) (h' := hp q2) rfl ?_
  obtain ⟨q3, e_q3, h⟩ := Option.bind_eq_some_iff.mp h
  refine am_Y.call0 (M' := am_M146) (as := [.ref 129, .int x1, .int (4 : Int32)]) (rest := [.int (4 : Int32), .int x1, .ref 129]) (d' := 0) rfl (by omega) rfl rfl (t_m_get x1 (4 : Int32) q2 q3 e_q3) ?_
  refine am_Y.run (k := 2) (pc' := 25) (lv' := [(3, .int q1.1), (0, .ref 129), (1, .int x1), (2, .int x2)]) (st' := [.int (q3 + (1 : Int32)), .int (4 : Int32), .int x1, .ref 129]) (h' := hp q2) rfl ?_
  obtain ⟨q4, e_q4, h⟩ := Option.bind_eq_some_iff.mp h
  refine am_Y.call0 (M' := am_M105) (as := [.ref 129, .int x1, .int (4 : Int32), .int (q3 + (1 : Int32))]) (rest := []) (d' := 0) rfl (by omega) rfl rfl (t_m_set x1 (4 : Int32) (q3 + (1 : Int32)) q2 q4 e_q4) ?_
  refine am_Y.run (k := 7) (pc' := 38) (lv' := [(3, .int q1.1), (0, .ref 129), (1, .int x1), (2, .int x2)]) (st' := [.int (gi q4 130 2), .int (6 : Int32), .int x1, .ref 129]) (h' := hp q4) rfl ?_
  obtain ⟨q5, e_q5, h⟩ := Option.bind_eq_some_iff.mp h
  refine am_Y.call0 (M' := am_M105) (as := [.ref 129, .int x1, .int (6 : Int32), .int (gi q4 130 2)]) (rest := []) (d' := 0) rfl (by omega) rfl rfl (t_m_set x1 (6 : Int32) (gi q4 130 2) q4 q5 e_q5) ?_
  refine am_Y.run (k := 2) (pc' := 43) (lv' := [(3, .int q1.1), (0, .ref 129), (1, .int x1), (2, .int x2)]) (st' := [.int (2 : Int32), .int x2]) (h' := hp q5) rfl ?_
  refine am_Y.br (c := x2 = (2 : Int32)) _ (t := 46) (u := 70) (lv' := [(3, .int q1.1), (0, .ref 129), (1, .int x1), (2, .int x2)]) (st' := []) (h' := hp q5) rfl (fun hc => ?_) (fun hc => ?_)
  · replace h := (if_pos hc).symm.trans h
    refine am_Y.run (k := 8) (pc' := 56) (lv' := [(3, .int q1.1), (0, .ref 129), (1, .int x1), (2, .int x2)]) (st' := []) (h' := hp (si q5 130 3 ((gi q5 130 3) + (1 : Int32)))) rfl ?_
    obtain ⟨q6, e_q6, h⟩ := Option.bind_eq_some_iff.mp h
    rw [Option.some.inj e_q6]
    refine am_Y.run (k := 6) (pc' := 62) (lv' := [(3, .int q1.1), (0, .ref 129), (1, .int x1), (2, .int x2)]) (st' := [.int (5 : Int32), .int x1, .ref 129, .int (5 : Int32), .int x1, .ref 129]) (h' := hp q6) rfl ?_
    obtain ⟨q7, e_q7, h⟩ := Option.bind_eq_some_iff.mp h
    refine am_Y.call0 (M' := am_M146) (as := [.ref 129, .int x1, .int (5 : Int32)]) (rest := [.int (5 : Int32), .int x1, .ref 129]) (d' := 0) rfl (by omega) rfl rfl (t_m_get x1 (5 : Int32) q6 q7 e_q7) ?_
    refine am_Y.run (k := 2) (pc' := 67) (lv' := [(3, .int q1.1), (0, .ref 129), (1, .int x1), (2, .int x2)]) (st' := [.int (q7 + (1 : Int32)), .int (5 : Int32), .int x1, .ref 129]) (h' := hp q6) rfl ?_
    obtain ⟨q8, e_q8, h⟩ := Option.bind_eq_some_iff.mp h
    refine am_Y.call0 (M' := am_M105) (as := [.ref 129, .int x1, .int (5 : Int32), .int (q7 + (1 : Int32))]) (rest := []) (d' := 0) rfl (by omega) rfl rfl (t_m_set x1 (5 : Int32) (q7 + (1 : Int32)) q6 q8 e_q8) ?_
    refine am_Y.run (k := 2) (pc' := 72) (lv' := [(3, .int q1.1), (0, .ref 129), (1, .int x1), (2, .int x2)]) (st' := [.int (3 : Int32), .int x2]) (h' := hp q8) rfl ?_
    refine am_Y.br (c := x2 = (3 : Int32)) _ (t := 75) (u := 82) (lv' := [(3, .int q1.1), (0, .ref 129), (1, .int x1), (2, .int x2)]) (st' := []) (h' := hp q8) rfl (fun hc => ?_) (fun hc => ?_)
    · replace h := (if_pos hc).symm.trans h
      refine am_Y.run (k := 4) (pc' := 79) (lv' := [(3, .int q1.1), (0, .ref 129), (1, .int x1), (2, .int x2)]) (st' := [.int (0 : Int32), .int (3 : Int32), .int x1, .ref 129]) (h' := hp q8) rfl ?_
      obtain ⟨q9, e_q9, h⟩ := Option.bind_eq_some_iff.mp h
      refine am_Y.call0 (M' := am_M105) (as := [.ref 129, .int x1, .int (3 : Int32), .int (0 : Int32)]) (rest := []) (d' := 0) rfl (by omega) rfl rfl (t_m_set x1 (3 : Int32) (0 : Int32) q8 q9 e_q9) ?_
      refine am_Y.run (k := 1) (pc' := 83) (lv' := [(3, .int q1.1), (0, .ref 129), (1, .int x1), (2, .int x2)]) (st' := [.int q1.1]) (h' := hp q9) rfl ?_
      obtain ⟨rfl, rfl⟩ := Prod.mk.inj (Option.some.inj h)
      exact am_Y.ret rfl
    · replace h := (if_neg hc).symm.trans h
      refine am_Y.run (k := 1) (pc' := 83) (lv' := [(3, .int q1.1), (0, .ref 129), (1, .int x1), (2, .int x2)]) (st' := [.int q1.1]) (h' := hp q8) rfl ?_
      obtain ⟨rfl, rfl⟩ := Prod.mk.inj (Option.some.inj h)
      exact am_Y.ret rfl
  · replace h := (if_neg hc).symm.trans h
    refine am_Y.run (k := 2) (pc' := 72) (lv' := [(3, .int q1.1), (0, .ref 129), (1, .int x1), (2, .int x2)]) (st' := [.int (3 : Int32), .int x2]) (h' := hp q5) rfl ?_
    refine am_Y.br (c := x2 = (3 : Int32)) _ (t := 75) (u := 82) (lv' := [(3, .int q1.1), (0, .ref 129), (1, .int x1), (2, .int x2)]) (st' := []) (h' := hp q5) rfl (fun hc => ?_) (fun hc => ?_)
    · replace h := (if_pos hc).symm.trans h
      refine am_Y.run (k := 4) (pc' := 79) (lv' := [(3, .int q1.1), (0, .ref 129), (1, .int x1), (2, .int x2)]) (st' := [.int (0 : Int32), .int (3 : Int32), .int x1, .ref 129]) (h' := hp q5) rfl ?_
      obtain ⟨q10, e_q10, h⟩ := Option.bind_eq_some_iff.mp h
      refine am_Y.call0 (M' := am_M105) (as := [.ref 129, .int x1, .int (3 : Int32), .int (0 : Int32)]) (rest := []) (d' := 0) rfl (by omega) rfl rfl (t_m_set x1 (3 : Int32) (0 : Int32) q5 q10 e_q10) ?_
      refine am_Y.run (k := 1) (pc' := 83) (lv' := [(3, .int q1.1), (0, .ref 129), (1, .int x1), (2, .int x2)]) (st' := [.int q1.1]) (h' := hp q10) rfl ?_
      obtain ⟨rfl, rfl⟩ := Prod.mk.inj (Option.some.inj h)
      exact am_Y.ret rfl
    · replace h := (if_neg hc).symm.trans h
      refine am_Y.run (k := 1) (pc' := 83) (lv' := [(3, .int q1.1), (0, .ref 129), (1, .int x1), (2, .int x2)]) (st' := [.int q1.1]) (h' := hp q5) rfl ?_
      obtain ⟨rfl, rfl⟩ := Prod.mk.inj (Option.some.inj h)
      exact am_Y.ret rfl
set_option maxRecDepth 100000 in
theorem t_m_say {S : Nat × (Nat → Int32)} (N : Nat) (x1 : Int32) (x2 : Int32) (M : Mem) (r : Int32) (M' : Mem) (h : f_m_say N x1 x2 M = some (r, M')) : am_Y S 6 0 0 am_M15 0 [(0, .ref 129), (1, .int x1), (2, .int x2)] [] (hp M) (some (.int r)) (hp M') := by
  rw [f_m_say] at h
  refine am_Y.run (k := 2) (pc' := 2) (lv' := [(0, .ref 129), (1, .int x1), (2, .int x2)]) (st' := [.int x1, .ref 129]) (h' := hp M) rfl ?_
  refine am_Y.call0 (M' := am_M115) (as := [.ref 129, .int x1]) (rest := []) (d' := 1) rfl (by omega) rfl rfl (t_m_isGuest x1 M _ rfl) ?_
  refine am_Y.br (c := (f_m_isGuest x1 M) = (0 : Int32)) _ (t := 25) (u := 8) (lv' := [(0, .ref 129), (1, .int x1), (2, .int x2)]) (st' := []) (h' := hp M) rfl (fun hc => ?_) (fun hc => ?_)
  · replace h := (if_pos hc).symm.trans h
    refine am_Y.run (k := 1) (pc' := 27) (lv' := [(0, .ref 129), (1, .int x1), (2, .int x2)]) (st' := [.int (-2 : Int32)]) (h' := hp M) rfl ?_
    obtain ⟨rfl, rfl⟩ := Prod.mk.inj (Option.some.inj h)
    exact am_Y.ret rfl
  · replace h := (if_neg hc).symm.trans h
    refine am_Y.run (k := 3) (pc' := 11) (lv' := [(0, .ref 129), (1, .int x1), (2, .int x2)]) (st' := [.int (3 : Int32), .int (0 : Int32), .int x2]) (h' := hp M) rfl ?_
    refine am_Y.call0 (M' := am_M104) (as := [.int x2, .int (0 : Int32), .int (3 : Int32)]) (rest := []) (d' := 0) rfl (by omega) rfl rfl (t_m_isIn x2 (0 : Int32) (3 : Int32) M _ rfl) ?_
    refine am_Y.br (c := (f_m_isIn x2 (0 : Int32) (3 : Int32) M) = (0 : Int32)) _ (t := 25) (u := 17) (lv' := [(0, .ref 129), (1, .int x1), (2, .int x2)]) (st' := []) (h' := hp M) rfl (fun hc => ?_) (fun hc => ?_)
    · replace h := (if_pos hc).symm.trans h
      refine am_Y.run (k := 1) (pc' := 27) (lv' := [(0, .ref 129), (1, .int x1), (2, .int x2)]) (st' := [.int (-2 : Int32)]) (h' := hp M) rfl ?_
      obtain ⟨rfl, rfl⟩ := Prod.mk.inj (Option.some.inj h)
      exact am_Y.ret rfl
    · replace h := (if_neg hc).symm.trans h
      refine am_Y.run (k := 2) (pc' := 19) (lv' := [(0, .ref 129), (1, .int x1), (2, .int x2)]) (st' := [.int x1, .ref 129]) (h' := hp M) rfl ?_
      obtain ⟨q1, e_q1, h⟩ := Option.bind_eq_some_iff.mp h
      refine am_Y.call0 (M' := am_M116) (as := [.ref 129, .int x1]) (rest := []) (d' := 2) rfl (by omega) rfl rfl (t_m_canSay x1 M q1 e_q1) ?_
      refine am_Y.br (c := q1 = (0 : Int32)) _ (t := 25) (u := 28) (lv' := [(0, .ref 129), (1, .int x1), (2, .int x2)]) (st' := []) (h' := hp M) rfl (fun hc => ?_) (fun hc => ?_)
      · replace h := (if_pos hc).symm.trans h
        refine am_Y.run (k := 1) (pc' := 27) (lv' := [(0, .ref 129), (1, .int x1), (2, .int x2)]) (st' := [.int (-2 : Int32)]) (h' := hp M) rfl ?_
        obtain ⟨rfl, rfl⟩ := Prod.mk.inj (Option.some.inj h)
        exact am_Y.ret rfl
      · replace h := (if_neg hc).symm.trans h
        refine am_Y.run (k := 1) (pc' := 29) (lv' := [(0, .ref 129), (1, .int x1), (2, .int x2)]) (st' := [.ref 129]) (h' := hp M) rfl ?_
        obtain ⟨q2, e_q2, h⟩ := Option.bind_eq_some_iff.mp h
        refine am_Y.call0 (M' := am_M117) (as := [.ref 129]) (rest := []) (d' := 1) rfl (by omega) rfl rfl (t_m_keep N M q2 e_q2) ?_
        refine am_Y.run (k := 3) (pc' := 35) (lv' := [(0, .ref 129), (1, .int x1), (2, .int x2)]) (st' := [.int x2, .int x1, .ref 129]) (h' := hp q2) rfl ?_
        obtain ⟨q3, e_q3, h⟩ := Option.bind_eq_some_iff.mp h
        refine am_Y.call0 (M' := am_M118) (as := [.ref 129, .int x1, .int x2]) (rest := []) (d' := 5) rfl (by omega) rfl rfl (t_m_sayNow N x1 x2 q2 q3.1 q3.2 e_q3) ?_
        obtain ⟨rfl, rfl⟩ := Prod.mk.inj (Option.some.inj h)
        exact am_Y.ret rfl
set_option maxRecDepth 100000 in
theorem t_w_ask {S : Nat × (Nat → Int32)} (M : Mem) (r : Int32) (M' : Mem) (h : f_w_ask M = some (r, M')) : am_Y S 3 0 0 am_M16 0 [(0, .ref 5)] [] (hp M) (some (.int r)) (hp M') := by
  rw [f_w_ask] at h
  refine am_Y.run (k := 3) (pc' := 7) (lv' := [(0, .ref 5)]) (st' := [.ref 11]) (h' := hp M) rfl ?_
  refine am_Y.call0 (M' := am_M119) (as := [.ref 11]) (rest := []) (d' := 1) rfl (by omega) rfl rfl (t_e_isFull M _ rfl) ?_
  refine am_Y.br (c := (f_e_isFull M) = (0 : Int32)) _ (t := 15) (u := 13) (lv' := [(0, .ref 5)]) (st' := []) (h' := hp M) rfl (fun hc => ?_) (fun hc => ?_)
  · replace h := (if_pos hc).symm.trans h
    refine am_Y.run (k := 2) (pc' := 19) (lv' := [(0, .ref 5)]) (st' := [.ref 6]) (h' := hp M) rfl ?_
    obtain ⟨q1, e_q1, h⟩ := Option.bind_eq_some_iff.mp h
    refine am_Y.call0 (M' := am_M120) (as := [.ref 6]) (rest := []) (d' := 2) rfl (by omega) rfl rfl (t_t_keepStep M q1 e_q1) ?_
    refine am_Y.run (k := 8) (pc' := 39) (lv' := [(0, .ref 5)]) (st' := [.ref 11, .int (4 : Int32), .int (8 : Int32), .ref 11]) (h' := hp q1) rfl ?_
    refine am_Y.call0 (M' := am_M121) (as := [.ref 11]) (rest := [.int (4 : Int32), .int (8 : Int32), .ref 11]) (d' := 0) rfl (by omega) rfl rfl (t_e_moment q1 _ rfl) ?_
    obtain ⟨q2, e_q2, h⟩ := Option.bind_eq_some_iff.mp h
    refine am_Y.call0 (M' := am_M122) (as := [.ref 11, .int (8 : Int32), .int (4 : Int32), .int (f_e_moment q1)]) (rest := []) (d' := 1) rfl (by omega) rfl rfl (t_e_enter (8 : Int32) (4 : Int32) (f_e_moment q1) q1 q2 e_q2) ?_
    refine am_Y.run (k := 1) (pc' := 46) (lv' := [(0, .ref 5)]) (st' := [.int (1 : Int32)]) (h' := hp q2) rfl ?_
    obtain ⟨rfl, rfl⟩ := Prod.mk.inj (Option.some.inj h)
    exact am_Y.ret rfl
  · replace h := (if_neg hc).symm.trans h
    refine am_Y.run (k := 1) (pc' := 14) (lv' := [(0, .ref 5)]) (st' := [.int (0 : Int32)]) (h' := hp M) rfl ?_
    obtain ⟨rfl, rfl⟩ := Prod.mk.inj (Option.some.inj h)
    exact am_Y.ret rfl
