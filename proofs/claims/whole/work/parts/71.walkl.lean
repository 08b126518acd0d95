/-! AM does what the functions say. -/
set_option maxRecDepth 100000 in
theorem t_w_tally {S : Nat × (Nat → Int32)} (N : Nat) (x1 : Int32) (x2 : Int32) (M : Mem) (r : Int32) (h : f_w_tally N x1 x2 M = some r) : am_Y S 2 0 0 am_M44 0 [(0, .ref 5), (1, .int x1), (2, .int x2)] [] (hp M) (some (.int r)) (hp M) := by
  rw [f_w_tally] at h
  refine am_Y.run (k := 4) (pc' := 8) (lv' := [(0, .ref 5), (1, .int x1), (2, .int x2)]) (st' := [.int x1, .ref 7]) (h' := hp M) rfl ?_
  refine am_Y.call0 (M' := am_M140) (as := [.ref 7, .int x1]) (rest := []) (d' := 1) rfl (by omega) rfl rfl (t_g_knows x1 M _ rfl) ?_
  refine am_Y.br (c := (f_g_knows x1 M) = (0 : Int32)) _ (t := 14) (u := 16) (lv' := [(0, .ref 5), (1, .int x1), (2, .int x2)]) (st' := []) (h' := hp M) rfl (fun hc => ?_) (fun hc => ?_)
  · replace h := (if_pos hc).symm.trans h
    refine am_Y.run (k := 1) (pc' := 15) (lv' := [(0, .ref 5), (1, .int x1), (2, .int x2)]) (st' := [.int (-1 : Int32)]) (h' := hp M) rfl ?_
    obtain rfl := Option.some.inj h
    exact am_Y.ret rfl
  · replace h := (if_neg hc).symm.trans h
    refine am_Y.run (k := 7) (pc' := 27) (lv' := [(0, .ref 5), (1, .int x1), (2, .int x2)]) (st' := [.int x2, .int ((1 : Int32) <<< (x1 &&& 31)), .ref 11]) (h' := hp M) rfl ?_
    obtain ⟨q1, e_q1, h⟩ := Option.bind_eq_some_iff.mp h
    refine am_Y.call0 (M' := am_M185) (as := [.ref 11, .int ((1 : Int32) <<< (x1 &&& 31)), .int x2]) (rest := []) (d' := 1) rfl (by omega) rfl rfl (t_h_nightsOf N ((1 : Int32) <<< (x1 &&& 31)) x2 M q1 e_q1) ?_
    obtain rfl := Option.some.inj h
    exact am_Y.ret rfl
set_option maxRecDepth 100000 in
theorem t_m_tally_15 {S : Nat × (Nat → Int32)} (N : Nat) : ∀ (n : Nat) (x1 : Int32) (x2 : Int32) (x3 : Int32) (x4 : Int32) (M : Mem) (r : Int32), f_m_tally_15 N n x1 x2 x3 x4 M = some r → am_Y S 3 0 0 am_M45 15 [(0, .ref 129), (1, .int x1), (2, .int x2), (3, .int x3), (4, .int x4)] [] (hp M) (some (.int r)) (hp M) := by
  intro n
  induction n with
  | zero =>
    intro x1 x2 x3 x4 M r h
    cases h
  | succ n ih =>
    intro x1 x2 x3 x4 M r h
    rw [f_m_tally_15] at h
    refine am_Y.run (k := 2) (pc' := 18) (lv' := [(0, .ref 129), (1, .int x1), (2, .int x2), (3, .int x3), (4, .int x4)]) (st' := [.ref 129, .int x4]) (h' := hp M) rfl ?_
    refine am_Y.call0 (M' := am_M166) (as := [.ref 129]) (rest := [.int x4]) (d' := 0) rfl (by omega) rfl rfl (t_m_shown M _ rfl) ?_
    refine am_Y.br (c := (f_m_shown M) ≤ x4) _ (t := 67) (u := 24) (lv' := [(0, .ref 129), (1, .int x1), (2, .int x2), (3, .int x3), (4, .int x4)]) (st' := []) (h' := hp M) rfl (fun hc => ?_) (fun hc => ?_)
    · replace h := (if_pos hc).symm.trans h
      refine am_Y.run (k := 1) (pc' := 68) (lv' := [(0, .ref 129), (1, .int x1), (2, .int x2), (3, .int x3), (4, .int x4)]) (st' := [.int x3]) (h' := hp M) rfl ?_
      obtain rfl := Option.some.inj h
      exact am_Y.ret rfl
    · replace h := (if_neg hc).symm.trans h
      refine am_Y.run (k := 2) (pc' := 26) (lv' := [(0, .ref 129), (1, .int x1), (2, .int x2), (3, .int x3), (4, .int x4)]) (st' := [.int x2, .int x3]) (h' := hp M) rfl ?_
      refine am_Y.br (c := x2 = (0 : Int32)) _ (t := 49) (u := 29) (lv' := [(0, .ref 129), (1, .int x1), (2, .int x2), (3, .int x3), (4, .int x4)]) (st' := [.int x3]) (h' := hp M) rfl (fun hc => ?_) (fun hc => ?_)
      · replace h := (if_pos hc).symm.trans h
        refine am_Y.run (k := 2) (pc' := 52) (lv' := [(0, .ref 129), (1, .int x1), (2, .int x2), (3, .int x3), (4, .int x4)]) (st' := [.int x4, .ref 129, .int x3]) (h' := hp M) rfl ?_
        obtain ⟨q1, e_q1, h⟩ := Option.bind_eq_some_iff.mp h
        refine am_Y.call0 (M' := am_M168) (as := [.ref 129, .int x4]) (rest := [.int x3]) (d' := 2) rfl (by omega) rfl rfl (t_m_heldIn x4 M q1 e_q1) ?_
        refine am_Y.run (k := 8) (pc' := 15) (lv' := [(4, .int (x4 + (1 : Int32))), (3, .int (x3 + ((q1 >>> (x1 &&& 31)) &&& (1 : Int32)))), (0, .ref 129), (1, .int x1), (2, .int x2)]) (st' := []) (h' := hp M) rfl ?_
        refine am_Y.weak (lv2 := [(0, .ref 129), (1, .int x1), (2, .int x2), (3, .int (x3 + ((q1 >>> (x1 &&& 31)) &&& (1 : Int32)))), (4, .int (x4 + (1 : Int32)))]) rfl rfl ⟨rfl, rfl, rfl, rfl, rfl, trivial⟩ ?_
        exact ih x1 x2 (x3 + ((q1 >>> (x1 &&& 31)) &&& (1 : Int32))) (x4 + (1 : Int32)) M _ h
      · replace h := (if_neg hc).symm.trans h
        refine am_Y.run (k := 2) (pc' := 32) (lv' := [(0, .ref 129), (1, .int x1), (2, .int x2), (3, .int x3), (4, .int x4)]) (st' := [.int x4, .ref 129, .int x3]) (h' := hp M) rfl ?_
        obtain ⟨q2, e_q2, h⟩ := Option.bind_eq_some_iff.mp h
        refine am_Y.call0 (M' := am_M168) (as := [.ref 129, .int x4]) (rest := [.int x3]) (d' := 2) rfl (by omega) rfl rfl (t_m_heldIn x4 M q2 e_q2) ?_
        refine am_Y.run (k := 3) (pc' := 38) (lv' := [(0, .ref 129), (1, .int x1), (2, .int x2), (3, .int x3), (4, .int x4)]) (st' := [.int ((1 : Int32) <<< (x1 &&& 31)), .int q2, .int x3]) (h' := hp M) rfl ?_
        refine am_Y.br (c := q2 = ((1 : Int32) <<< (x1 &&& 31))) _ (t := 41) (u := 45) (lv' := [(0, .ref 129), (1, .int x1), (2, .int x2), (3, .int x3), (4, .int x4)]) (st' := [.int x3]) (h' := hp M) rfl (fun hc => ?_) (fun hc => ?_)
        · replace h := (if_pos hc).symm.trans h
          refine am_Y.run (k := 6) (pc' := 15) (lv' := [(4, .int (x4 + (1 : Int32))), (3, .int (x3 + (1 : Int32))), (0, .ref 129), (1, .int x1), (2, .int x2)]) (st' := []) (h' := hp M) rfl ?_
          refine am_Y.weak (lv2 := [(0, .ref 129), (1, .int x1), (2, .int x2), (3, .int (x3 + (1 : Int32))), (4, .int (x4 + (1 : Int32)))]) rfl rfl ⟨rfl, rfl, rfl, rfl, rfl, trivial⟩ ?_
          exact ih x1 x2 (x3 + (1 : Int32)) (x4 + (1 : Int32)) M _ h
        · replace h := (if_neg hc).symm.trans h
          refine am_Y.run (k := 6) (pc' := 15) (lv' := [(4, .int (x4 + (1 : Int32))), (3, .int (x3 + (0 : Int32))), (0, .ref 129), (1, .int x1), (2, .int x2)]) (st' := []) (h' := hp M) rfl ?_
          refine am_Y.weak (lv2 := [(0, .ref 129), (1, .int x1), (2, .int x2), (3, .int (x3 + (0 : Int32))), (4, .int (x4 + (1 : Int32)))]) rfl rfl ⟨rfl, rfl, rfl, rfl, rfl, trivial⟩ ?_
          exact ih x1 x2 (x3 + (0 : Int32)) (x4 + (1 : Int32)) M _ h
set_option maxRecDepth 100000 in
theorem t_m_tally {S : Nat × (Nat → Int32)} (N : Nat) (x1 : Int32) (x2 : Int32) (M : Mem) (r : Int32) (h : f_m_tally N x1 x2 M = some r) : am_Y S 3 0 0 am_M45 0 [(0, .ref 129), (1, .int x1), (2, .int x2)] [] (hp M) (some (.int r)) (hp M) := by
  rw [f_m_tally] at h
  refine am_Y.run (k := 2) (pc' := 2) (lv' := [(0, .ref 129), (1, .int x1), (2, .int x2)]) (st' := [.int x1, .ref 129]) (h' := hp M) rfl ?_
  refine am_Y.call0 (M' := am_M115) (as := [.ref 129, .int x1]) (rest := []) (d' := 1) rfl (by omega) rfl rfl (t_m_isGuest x1 M _ rfl) ?_
  refine am_Y.br (c := (f_m_isGuest x1 M) = (0 : Int32)) _ (t := 8) (u := 10) (lv' := [(0, .ref 129), (1, .int x1), (2, .int x2)]) (st' := []) (h' := hp M) rfl (fun hc => ?_) (fun hc => ?_)
  · replace h := (if_pos hc).symm.trans h
    refine am_Y.run (k := 1) (pc' := 9) (lv' := [(0, .ref 129), (1, .int x1), (2, .int x2)]) (st' := [.int (-1 : Int32)]) (h' := hp M) rfl ?_
    obtain rfl := Option.some.inj h
    exact am_Y.ret rfl
  · replace h := (if_neg hc).symm.trans h
    refine am_Y.run (k := 4) (pc' := 15) (lv' := [(4, .int (0 : Int32)), (3, .int (0 : Int32)), (0, .ref 129), (1, .int x1), (2, .int x2)]) (st' := []) (h' := hp M) rfl ?_
    refine am_Y.weak (lv2 := [(0, .ref 129), (1, .int x1), (2, .int x2), (3, .int (0 : Int32)), (4, .int (0 : Int32))]) rfl rfl ⟨rfl, rfl, rfl, rfl, rfl, trivial⟩ ?_
    exact t_m_tally_15 N N x1 x2 (0 : Int32) (0 : Int32) M _ h
set_option maxRecDepth 100000 in
theorem t_h_runFrom_14 {S : Nat × (Nat → Int32)} (N : Nat) : ∀ (n : Nat) (x2 : Int32) (x3 : Int32) (x4 : Int32) (M : Mem) (r : Int32), f_h_runFrom_14 N n x2 x3 x4 M = some r → am_Y S 1 0 0 am_M255 14 [(0, .ref 11), (2, .int x2), (3, .int x3), (4, .int x4)] [] (hp M) (some (.int r)) (hp M) := by
  intro n
  induction n with
  | zero =>
    intro x2 x3 x4 M r h
    cases h
  | succ n ih =>
    intro x2 x3 x4 M r h
    rw [f_h_runFrom_14] at h
    refine am_Y.run (k := 2) (pc' := 17) (lv' := [(0, .ref 11), (2, .int x2), (3, .int x3), (4, .int x4)]) (st' := [.ref 11, .int x4]) (h' := hp M) rfl ?_
    refine am_Y.call0 (M' := am_M161) (as := [.ref 11]) (rest := [.int x4]) (d' := 0) rfl (by omega) rfl rfl (t_e_written M _ rfl) ?_
    refine am_Y.br (c := (f_e_written M) ≤ x4) _ (t := 48) (u := 23) (lv' := [(0, .ref 11), (2, .int x2), (3, .int x3), (4, .int x4)]) (st' := []) (h' := hp M) rfl (fun hc => ?_) (fun hc => ?_)
    · replace h := (if_pos hc).symm.trans h
      refine am_Y.run (k := 1) (pc' := 49) (lv' := [(0, .ref 11), (2, .int x2), (3, .int x3), (4, .int x4)]) (st' := [.int x3]) (h' := hp M) rfl ?_
      obtain rfl := Option.some.inj h
      exact am_Y.ret rfl
    · replace h := (if_neg hc).symm.trans h
      refine am_Y.run (k := 2) (pc' := 26) (lv' := [(0, .ref 11), (2, .int x2), (3, .int x3), (4, .int x4)]) (st' := [.int x4, .ref 11]) (h' := hp M) rfl ?_
      obtain ⟨q2, e_q2, h⟩ := Option.bind_eq_some_iff.mp h
      refine am_Y.call0 (M' := am_M162) (as := [.ref 11, .int x4]) (rest := []) (d' := 0) rfl (by omega) rfl rfl (t_e_page x4 M q2 e_q2) ?_
      refine am_Y.call0 (M' := am_M164) (as := [.int q2]) (rest := []) (d' := 0) rfl (by omega) rfl rfl (t_e_heirsOf q2 M _ rfl) ?_
      refine am_Y.run (k := 1) (pc' := 33) (lv' := [(0, .ref 11), (2, .int x2), (3, .int x3), (4, .int x4)]) (st' := [.int x2, .int (f_e_heirsOf q2 M)]) (h' := hp M) rfl ?_
      refine am_Y.br (c := (f_e_heirsOf q2 M) = x2) _ (t := 39) (u := 36) (lv' := [(0, .ref 11), (2, .int x2), (3, .int x3), (4, .int x4)]) (st' := []) (h' := hp M) rfl (fun hc => ?_) (fun hc => ?_)
      · replace h := (if_pos hc).symm.trans h
        refine am_Y.run (k := 3) (pc' := 14) (lv' := [(4, .int (x4 + (1 : Int32))), (3, .int (x3 + (1 : Int32))), (0, .ref 11), (2, .int x2)]) (st' := []) (h' := hp M) rfl ?_
        refine am_Y.weak (lv2 := [(0, .ref 11), (2, .int x2), (3, .int (x3 + (1 : Int32))), (4, .int (x4 + (1 : Int32)))]) rfl rfl ⟨rfl, rfl, rfl, rfl, trivial⟩ ?_
        exact ih x2 (x3 + (1 : Int32)) (x4 + (1 : Int32)) M _ h
      · replace h := (if_neg hc).symm.trans h
        refine am_Y.run (k := 2) (pc' := 49) (lv' := [(0, .ref 11), (2, .int x2), (3, .int x3), (4, .int x4)]) (st' := [.int x3]) (h' := hp M) rfl ?_
        obtain rfl := Option.some.inj h
        exact am_Y.ret rfl
set_option maxRecDepth 100000 in
theorem t_h_runFrom {S : Nat × (Nat → Int32)} (N : Nat) (x1 : Int32) (M : Mem) (r : Int32) (h : f_h_runFrom N x1 M = some r) : am_Y S 1 0 0 am_M255 0 [(0, .ref 11), (1, .int x1)] [] (hp M) (some (.int r)) (hp M) := by
  rw [f_h_runFrom] at h
  refine am_Y.run (k := 2) (pc' := 2) (lv' := [(0, .ref 11), (1, .int x1)]) (st' := [.int x1, .ref 11]) (h' := hp M) rfl ?_
  obtain ⟨q1, e_q1, h⟩ := Option.bind_eq_some_iff.mp h
  refine am_Y.call0 (M' := am_M162) (as := [.ref 11, .int x1]) (rest := []) (d' := 0) rfl (by omega) rfl rfl (t_e_page x1 M q1 e_q1) ?_
  refine am_Y.call0 (M' := am_M164) (as := [.int q1]) (rest := []) (d' := 0) rfl (by omega) rfl rfl (t_e_heirsOf q1 M _ rfl) ?_
  refine am_Y.run (k := 5) (pc' := 14) (lv' := [(4, .int x1), (3, .int (0 : Int32)), (2, .int (f_e_heirsOf q1 M)), (0, .ref 11), (1, .int x1)]) (st' := []) (h' := hp M) rfl ?_
  refine am_Y.weak (lv2 := [(0, .ref 11), (2, .int (f_e_heirsOf q1 M)), (3, .int (0 : Int32)), (4, .int x1)]) rfl rfl ⟨rfl, rfl, rfl, rfl, trivial⟩ ?_
  exact t_h_runFrom_14 N N (f_e_heirsOf q1 M) (0 : Int32) x1 M _ h
set_option maxRecDepth 100000 in
theorem t_h_longestRun_4 {S : Nat × (Nat → Int32)} (N : Nat) : ∀ (n : Nat) (x1 : Int32) (x2 : Int32) (M : Mem) (r : Int32), f_h_longestRun_4 N n x1 x2 M = some r → am_Y S 2 0 0 am_M187 4 [(0, .ref 11), (1, .int x1), (2, .int x2)] [] (hp M) (some (.int r)) (hp M) := by
  intro n
  induction n with
  | zero =>
    intro x1 x2 M r h
    cases h
  | succ n ih =>
    intro x1 x2 M r h
    rw [f_h_longestRun_4] at h
    refine am_Y.run (k := 2) (pc' := 6) (lv' := [(0, .ref 11), (1, .int x1), (2, .int x2)]) (st' := [.ref 11, .int x2]) (h' := hp M) rfl ?_
    refine am_Y.call0 (M' := am_M161) (as := [.ref 11]) (rest := [.int x2]) (d' := 0) rfl (by omega) rfl rfl (t_e_written M _ rfl) ?_
    refine am_Y.br (c := (f_e_written M) ≤ x2) _ (t := 28) (u := 12) (lv' := [(0, .ref 11), (1, .int x1), (2, .int x2)]) (st' := []) (h' := hp M) rfl (fun hc => ?_) (fun hc => ?_)
    · replace h := (if_pos hc).symm.trans h
      refine am_Y.run (k := 1) (pc' := 29) (lv' := [(0, .ref 11), (1, .int x1), (2, .int x2)]) (st' := [.int x1]) (h' := hp M) rfl ?_
      obtain rfl := Option.some.inj h
      exact am_Y.ret rfl
    · replace h := (if_neg hc).symm.trans h
      refine am_Y.run (k := 3) (pc' := 15) (lv' := [(0, .ref 11), (1, .int x1), (2, .int x2)]) (st' := [.int x2, .ref 11, .int x1]) (h' := hp M) rfl ?_
      obtain ⟨q1, e_q1, h⟩ := Option.bind_eq_some_iff.mp h
      refine am_Y.call0 (M' := am_M255) (as := [.ref 11, .int x2]) (rest := [.int x1]) (d' := 1) rfl (by omega) rfl rfl (t_h_runFrom N x2 M q1 e_q1) ?_
      refine am_Y.call0 (M' := am_M246) (as := [.int x1, .int q1]) (rest := []) (d' := 0) rfl (by omega) rfl rfl (t_k_max0 x1 q1 M _ rfl) ?_
      refine am_Y.run (k := 3) (pc' := 4) (lv' := [(2, .int (x2 + (1 : Int32))), (1, .int (f_k_max0 x1 q1 M)), (0, .ref 11)]) (st' := []) (h' := hp M) rfl ?_
      refine am_Y.weak (lv2 := [(0, .ref 11), (1, .int (f_k_max0 x1 q1 M)), (2, .int (x2 + (1 : Int32)))]) rfl rfl ⟨rfl, rfl, rfl, trivial⟩ ?_
      exact ih (f_k_max0 x1 q1 M) (x2 + (1 : Int32)) M _ h
set_option maxRecDepth 100000 in
theorem t_h_longestRun {S : Nat × (Nat → Int32)} (N : Nat) (M : Mem) (r : Int32) (h : f_h_longestRun N M = some r) : am_Y S 2 0 0 am_M187 0 [(0, .ref 11)] [] (hp M) (some (.int r)) (hp M) := by
  rw [f_h_longestRun] at h
  refine am_Y.run (k := 4) (pc' := 4) (lv' := [(2, .int (0 : Int32)), (1, .int (0 : Int32)), (0, .ref 11)]) (st' := []) (h' := hp M) rfl ?_
  refine am_Y.weak (lv2 := [(0, .ref 11), (1, .int (0 : Int32)), (2, .int (0 : Int32))]) rfl rfl ⟨rfl, rfl, rfl, trivial⟩ ?_
  exact t_h_longestRun_4 N N (0 : Int32) (0 : Int32) M _ h
set_option maxRecDepth 100000 in
theorem t_h_longestSet_6 {S : Nat × (Nat → Int32)} (N : Nat) : ∀ (n : Nat) (x1 : Int32) (x2 : Int32) (x3 : Int32) (M : Mem) (r : Int32), f_h_longestSet_6 N n x1 x2 x3 M = some r → am_Y S 2 0 0 am_M186 6 [(0, .ref 11), (1, .int x1), (2, .int x2), (3, .int x3)] [] (hp M) (some (.int r)) (hp M) := by
  intro n
  induction n with
  | zero =>
    intro x1 x2 x3 M r h
    cases h
  | succ n ih =>
    intro x1 x2 x3 M r h
    rw [f_h_longestSet_6] at h
    refine am_Y.run (k := 2) (pc' := 8) (lv' := [(0, .ref 11), (1, .int x1), (2, .int x2), (3, .int x3)]) (st' := [.ref 11, .int x3]) (h' := hp M) rfl ?_
    refine am_Y.call0 (M' := am_M161) (as := [.ref 11]) (rest := [.int x3]) (d' := 0) rfl (by omega) rfl rfl (t_e_written M _ rfl) ?_
    refine am_Y.br (c := (f_e_written M) ≤ x3) _ (t := 45) (u := 14) (lv' := [(0, .ref 11), (1, .int x1), (2, .int x2), (3, .int x3)]) (st' := []) (h' := hp M) rfl (fun hc => ?_) (fun hc => ?_)
    · replace h := (if_pos hc).symm.trans h
      refine am_Y.run (k := 1) (pc' := 46) (lv' := [(0, .ref 11), (1, .int x1), (2, .int x2), (3, .int x3)]) (st' := [.int x2]) (h' := hp M) rfl ?_
      obtain rfl := Option.some.inj h
      exact am_Y.ret rfl
    · replace h := (if_neg hc).symm.trans h
      refine am_Y.run (k := 2) (pc' := 16) (lv' := [(0, .ref 11), (1, .int x1), (2, .int x2), (3, .int x3)]) (st' := [.int x3, .ref 11]) (h' := hp M) rfl ?_
      obtain ⟨q1, e_q1, h⟩ := Option.bind_eq_some_iff.mp h
      refine am_Y.call0 (M' := am_M255) (as := [.ref 11, .int x3]) (rest := []) (d' := 1) rfl (by omega) rfl rfl (t_h_runFrom N x3 M q1 e_q1) ?_
      refine am_Y.run (k := 3) (pc' := 24) (lv' := [(4, .int q1), (0, .ref 11), (1, .int x1), (2, .int x2), (3, .int x3)]) (st' := [.int x1, .int q1]) (h' := hp M) rfl ?_
      refine am_Y.br (c := q1 ≤ x1) _ (t := 39) (u := 27) (lv' := [(4, .int q1), (0, .ref 11), (1, .int x1), (2, .int x2), (3, .int x3)]) (st' := []) (h' := hp M) rfl (fun hc => ?_) (fun hc => ?_)
      · replace h := (if_pos hc).symm.trans h
        refine am_Y.run (k := 2) (pc' := 6) (lv' := [(3, .int (x3 + (1 : Int32))), (4, .int q1), (0, .ref 11), (1, .int x1), (2, .int x2)]) (st' := []) (h' := hp M) rfl ?_
        refine am_Y.weak (lv2 := [(0, .ref 11), (1, .int x1), (2, .int x2), (3, .int (x3 + (1 : Int32)))]) rfl rfl ⟨rfl, rfl, rfl, rfl, trivial⟩ ?_
        exact ih x1 x2 (x3 + (1 : Int32)) M _ h
      · replace h := (if_neg hc).symm.trans h
        refine am_Y.run (k := 4) (pc' := 32) (lv' := [(1, .int q1), (4, .int q1), (0, .ref 11), (2, .int x2), (3, .int x3)]) (st' := [.int x3, .ref 11]) (h' := hp M) rfl ?_
        obtain ⟨q2, e_q2, h⟩ := Option.bind_eq_some_iff.mp h
        refine am_Y.call0 (M' := am_M162) (as := [.ref 11, .int x3]) (rest := []) (d' := 0) rfl (by omega) rfl rfl (t_e_page x3 M q2 e_q2) ?_
        refine am_Y.call0 (M' := am_M164) (as := [.int q2]) (rest := []) (d' := 0) rfl (by omega) rfl rfl (t_e_heirsOf q2 M _ rfl) ?_
        refine am_Y.run (k := 3) (pc' := 6) (lv' := [(3, .int (x3 + (1 : Int32))), (2, .int (f_e_heirsOf q2 M)), (1, .int q1), (4, .int q1), (0, .ref 11)]) (st' := []) (h' := hp M) rfl ?_
        refine am_Y.weak (lv2 := [(0, .ref 11), (1, .int q1), (2, .int (f_e_heirsOf q2 M)), (3, .int (x3 + (1 : Int32)))]) rfl rfl ⟨rfl, rfl, rfl, rfl, trivial⟩ ?_
        exact ih q1 (f_e_heirsOf q2 M) (x3 + (1 : Int32)) M _ h
set_option maxRecDepth 100000 in
theorem t_h_longestSet {S : Nat × (Nat → Int32)} (N : Nat) (M : Mem) (r : Int32) (h : f_h_longestSet N M = some r) : am_Y S 2 0 0 am_M186 0 [(0, .ref 11)] [] (hp M) (some (.int r)) (hp M) := by
  rw [f_h_longestSet] at h
  refine am_Y.run (k := 6) (pc' := 6) (lv' := [(3, .int (0 : Int32)), (2, .int (-1 : Int32)), (1, .int (0 : Int32)), (0, .ref 11)]) (st' := []) (h' := hp M) rfl ?_
  refine am_Y.weak (lv2 := [(0, .ref 11), (1, .int (0 : Int32)), (2, .int (-1 : Int32)), (3, .int (0 : Int32))]) rfl rfl ⟨rfl, rfl, rfl, rfl, trivial⟩ ?_
  exact t_h_longestSet_6 N N (0 : Int32) (-1 : Int32) (0 : Int32) M _ h
set_option maxRecDepth 100000 in
theorem t_w_longest {S : Nat × (Nat → Int32)} (N : Nat) (x1 : Int32) (M : Mem) (r : Int32) (h : f_w_longest N x1 M = some r) : am_Y S 3 0 0 am_M46 0 [(0, .ref 5), (1, .int x1)] [] (hp M) (some (.int r)) (hp M) := by
  rw [f_w_longest] at h
  refine am_Y.run (k := 1) (pc' := 1) (lv' := [(0, .ref 5), (1, .int x1)]) (st' := [.int x1]) (h' := hp M) rfl ?_
  refine am_Y.br (c := x1 = (0 : Int32)) _ (t := 17) (u := 4) (lv' := [(0, .ref 5), (1, .int x1)]) (st' := []) (h' := hp M) rfl (fun hc => ?_) (fun hc => ?_)
  · replace h := (if_pos hc).symm.trans h
    refine am_Y.run (k := 3) (pc' := 24) (lv' := [(0, .ref 5), (1, .int x1)]) (st' := [.ref 11]) (h' := hp M) rfl ?_
    obtain ⟨q1, e_q1, h⟩ := Option.bind_eq_some_iff.mp h
    refine am_Y.call0 (M' := am_M187) (as := [.ref 11]) (rest := []) (d' := 2) rfl (by omega) rfl rfl (t_h_longestRun N M q1 e_q1) ?_
    obtain rfl := Option.some.inj h
    exact am_Y.ret rfl
  · replace h := (if_neg hc).symm.trans h
    refine am_Y.run (k := 3) (pc' := 11) (lv' := [(0, .ref 5), (1, .int x1)]) (st' := [.ref 11]) (h' := hp M) rfl ?_
    obtain ⟨q2, e_q2, h⟩ := Option.bind_eq_some_iff.mp h
    refine am_Y.call0 (M' := am_M186) (as := [.ref 11]) (rest := []) (d' := 2) rfl (by omega) rfl rfl (t_h_longestSet N M q2 e_q2) ?_
    refine am_Y.run (k := 1) (pc' := 27) (lv' := [(0, .ref 5), (1, .int x1)]) (st' := [.int q2]) (h' := hp M) rfl ?_
    obtain rfl := Option.some.inj h
    exact am_Y.ret rfl
set_option maxRecDepth 100000 in
theorem t_m_longest_49 {S : Nat × (Nat → Int32)} (N : Nat) (K10 : Int32 → Int32 → Int32 → Int32 → Int32 → Mem → Option Int32) (hK10 : ∀ (x1 : Int32) (x2 : Int32) (x3 : Int32) (x4 : Int32) (x5 : Int32) (M : Mem) (r : Int32), K10 x1 x2 x3 x4 x5 M = some r → am_Y S 3 0 0 am_M47 10 [(0, .ref 129), (1, .int x1), (2, .int x2), (3, .int x3), (4, .int x4), (5, .int x5)] [] (hp M) (some (.int r)) (hp M)) (x1 : Int32) (x2 : Int32) (x3 : Int32) (x5 : Int32) (s0 : Int32) (M : Mem) (r : Int32) (h : f_m_longest_49 N K10 x1 x2 x3 x5 s0 M = some r) : am_Y S 3 0 0 am_M47 49 [(0, .ref 129), (1, .int x1), (2, .int x2), (3, .int x3), (5, .int x5)] [.int s0] (hp M) (some (.int r)) (hp M) := by
  rw [f_m_longest_49] at h
  refine am_Y.run (k := 3) (pc' := 54) (lv' := [(4, .int s0), (0, .ref 129), (1, .int x1), (2, .int x2), (3, .int x3), (5, .int x5)]) (st' := [.int x2, .int s0]) (h' := hp M) rfl ?_
  refine am_Y.br (c := x2 < s0) _ (t := 60) (u := 57) (lv' := [(4, .int s0), (0, .ref 129), (1, .int x1), (2, .int x2), (3, .int x3), (5, .int x5)]) (st' := []) (h' := hp M) rfl (fun hc => ?_) (fun hc => ?_)
  · replace h := (if_pos hc).symm.trans h
    refine am_Y.run (k := 4) (pc' := 66) (lv' := [(2, .int s0), (4, .int s0), (0, .ref 129), (1, .int x1), (3, .int x3), (5, .int x5)]) (st' := [.int x5, .ref 129]) (h' := hp M) rfl ?_
    obtain ⟨q3, e_q3, h⟩ := Option.bind_eq_some_iff.mp h
    refine am_Y.call0 (M' := am_M168) (as := [.ref 129, .int x5]) (rest := []) (d' := 2) rfl (by omega) rfl rfl (t_m_heldIn x5 M q3 e_q3) ?_
    refine am_Y.run (k := 3) (pc' := 10) (lv' := [(5, .int (x5 + (1 : Int32))), (3, .int q3), (2, .int s0), (4, .int s0), (0, .ref 129), (1, .int x1)]) (st' := []) (h' := hp M) rfl ?_
    refine am_Y.weak (lv2 := [(0, .ref 129), (1, .int x1), (2, .int s0), (3, .int q3), (4, .int s0), (5, .int (x5 + (1 : Int32)))]) rfl rfl ⟨rfl, rfl, rfl, rfl, rfl, rfl, trivial⟩ ?_
    exact hK10 x1 s0 q3 s0 (x5 + (1 : Int32)) M _ h
  · replace h := (if_neg hc).symm.trans h
    refine am_Y.run (k := 3) (pc' := 10) (lv' := [(5, .int (x5 + (1 : Int32))), (4, .int s0), (0, .ref 129), (1, .int x1), (2, .int x2), (3, .int x3)]) (st' := []) (h' := hp M) rfl ?_
    refine am_Y.weak (lv2 := [(0, .ref 129), (1, .int x1), (2, .int x2), (3, .int x3), (4, .int s0), (5, .int (x5 + (1 : Int32)))]) rfl rfl ⟨rfl, rfl, rfl, rfl, rfl, rfl, trivial⟩ ?_
    exact hK10 x1 x2 x3 s0 (x5 + (1 : Int32)) M _ h
set_option maxRecDepth 100000 in
theorem t_m_longest_10 {S : Nat × (Nat → Int32)} (N : Nat) : ∀ (n : Nat) (x1 : Int32) (x2 : Int32) (x3 : Int32) (x4 : Int32) (x5 : Int32) (M : Mem) (r : Int32), f_m_longest_10 N n x1 x2 x3 x4 x5 M = some r → am_Y S 3 0 0 am_M47 10 [(0, .ref 129), (1, .int x1), (2, .int x2), (3, .int x3), (4, .int x4), (5, .int x5)] [] (hp M) (some (.int r)) (hp M) := by
  intro n
  induction n with
  | zero =>
    intro x1 x2 x3 x4 x5 M r h
    cases h
  | succ n ih =>
    intro x1 x2 x3 x4 x5 M r h
    rw [f_m_longest_10] at h
    refine am_Y.run (k := 2) (pc' := 13) (lv' := [(0, .ref 129), (1, .int x1), (2, .int x2), (3, .int x3), (4, .int x4), (5, .int x5)]) (st' := [.ref 129, .int x5]) (h' := hp M) rfl ?_
    refine am_Y.call0 (M' := am_M166) (as := [.ref 129]) (rest := [.int x5]) (d' := 0) rfl (by omega) rfl rfl (t_m_shown M _ rfl) ?_
    refine am_Y.br (c := (f_m_shown M) ≤ x5) _ (t := 76) (u := 19) (lv' := [(0, .ref 129), (1, .int x1), (2, .int x2), (3, .int x3), (4, .int x4), (5, .int x5)]) (st' := []) (h' := hp M) rfl (fun hc => ?_) (fun hc => ?_)
    · replace h := (if_pos hc).symm.trans h
      refine am_Y.run (k := 1) (pc' := 77) (lv' := [(0, .ref 129), (1, .int x1), (2, .int x2), (3, .int x3), (4, .int x4), (5, .int x5)]) (st' := [.int x1]) (h' := hp M) rfl ?_
      refine am_Y.br (c := x1 = (0 : Int32)) _ (t := 84) (u := 80) (lv' := [(0, .ref 129), (1, .int x1), (2, .int x2), (3, .int x3), (4, .int x4), (5, .int x5)]) (st' := []) (h' := hp M) rfl (fun hc => ?_) (fun hc => ?_)
      · replace h := (if_pos hc).symm.trans h
        refine am_Y.run (k := 1) (pc' := 85) (lv' := [(0, .ref 129), (1, .int x1), (2, .int x2), (3, .int x3), (4, .int x4), (5, .int x5)]) (st' := [.int x2]) (h' := hp M) rfl ?_
        obtain rfl := Option.some.inj h
        exact am_Y.ret rfl
      · replace h := (if_neg hc).symm.trans h
        refine am_Y.run (k := 2) (pc' := 85) (lv' := [(0, .ref 129), (1, .int x1), (2, .int x2), (3, .int x3), (4, .int x4), (5, .int x5)]) (st' := [.int x3]) (h' := hp M) rfl ?_
        obtain rfl := Option.some.inj h
        exact am_Y.ret rfl
    · replace h := (if_neg hc).symm.trans h
      refine am_Y.run (k := 1) (pc' := 21) (lv' := [(0, .ref 129), (1, .int x1), (2, .int x2), (3, .int x3), (4, .int x4), (5, .int x5)]) (st' := [.int x5]) (h' := hp M) rfl ?_
      refine am_Y.br (c := x5 ≤ (0 : Int32)) _ (t := 48) (u := 24) (lv' := [(0, .ref 129), (1, .int x1), (2, .int x2), (3, .int x3), (4, .int x4), (5, .int x5)]) (st' := []) (h' := hp M) rfl (fun hc => ?_) (fun hc => ?_)
      · replace h := (if_pos hc).symm.trans h
        refine am_Y.run (k := 1) (pc' := 49) (lv' := [(0, .ref 129), (1, .int x1), (2, .int x2), (3, .int x3), (4, .int x4), (5, .int x5)]) (st' := [.int (1 : Int32)]) (h' := hp M) rfl ?_
        refine am_Y.weak (lv2 := [(0, .ref 129), (1, .int x1), (2, .int x2), (3, .int x3), (5, .int x5)]) rfl rfl ⟨rfl, rfl, rfl, rfl, rfl, trivial⟩ ?_
        exact t_m_longest_49 N _ ih x1 x2 x3 x5 (1 : Int32) M _ h
      · replace h := (if_neg hc).symm.trans h
        refine am_Y.run (k := 2) (pc' := 27) (lv' := [(0, .ref 129), (1, .int x1), (2, .int x2), (3, .int x3), (4, .int x4), (5, .int x5)]) (st' := [.int x5, .ref 129]) (h' := hp M) rfl ?_
        obtain ⟨q1, e_q1, h⟩ := Option.bind_eq_some_iff.mp h
        refine am_Y.call0 (M' := am_M168) (as := [.ref 129, .int x5]) (rest := []) (d' := 2) rfl (by omega) rfl rfl (t_m_heldIn x5 M q1 e_q1) ?_
        refine am_Y.run (k := 4) (pc' := 35) (lv' := [(0, .ref 129), (1, .int x1), (2, .int x2), (3, .int x3), (4, .int x4), (5, .int x5)]) (st' := [.int (x5 - (1 : Int32)), .ref 129, .int q1]) (h' := hp M) rfl ?_
        obtain ⟨q2, e_q2, h⟩ := Option.bind_eq_some_iff.mp h
        refine am_Y.call0 (M' := am_M168) (as := [.ref 129, .int (x5 - (1 : Int32))]) (rest := [.int q1]) (d' := 2) rfl (by omega) rfl rfl (t_m_heldIn (x5 - (1 : Int32)) M q2 e_q2) ?_
        refine am_Y.br (c := q1 = q2) _ (t := 41) (u := 48) (lv' := [(0, .ref 129), (1, .int x1), (2, .int x2), (3, .int x3), (4, .int x4), (5, .int x5)]) (st' := []) (h' := hp M) rfl (fun hc => ?_) (fun hc => ?_)
        · replace h := (if_pos hc).symm.trans h
          refine am_Y.run (k := 4) (pc' := 49) (lv' := [(0, .ref 129), (1, .int x1), (2, .int x2), (3, .int x3), (4, .int x4), (5, .int x5)]) (st' := [.int (x4 + (1 : Int32))]) (h' := hp M) rfl ?_
          refine am_Y.weak (lv2 := [(0, .ref 129), (1, .int x1), (2, .int x2), (3, .int x3), (5, .int x5)]) rfl rfl ⟨rfl, rfl, rfl, rfl, rfl, trivial⟩ ?_
          exact t_m_longest_49 N _ ih x1 x2 x3 x5 (x4 + (1 : Int32)) M _ h
        · replace h := (if_neg hc).symm.trans h
          refine am_Y.run (k := 1) (pc' := 49) (lv' := [(0, .ref 129), (1, .int x1), (2, .int x2), (3, .int x3), (4, .int x4), (5, .int x5)]) (st' := [.int (1 : Int32)]) (h' := hp M) rfl ?_
          refine am_Y.weak (lv2 := [(0, .ref 129), (1, .int x1), (2, .int x2), (3, .int x3), (5, .int x5)]) rfl rfl ⟨rfl, rfl, rfl, rfl, rfl, trivial⟩ ?_
          exact t_m_longest_49 N _ ih x1 x2 x3 x5 (1 : Int32) M _ h
set_option maxRecDepth 100000 in
theorem t_m_longest {S : Nat × (Nat → Int32)} (N : Nat) (x1 : Int32) (M : Mem) (r : Int32) (h : f_m_longest N x1 M = some r) : am_Y S 3 0 0 am_M47 0 [(0, .ref 129), (1, .int x1)] [] (hp M) (some (.int r)) (hp M) := by
  rw [f_m_longest] at h
  refine am_Y.run (k := 8) (pc' := 10) (lv' := [(5, .int (0 : Int32)), (4, .int (0 : Int32)), (3, .int (-1 : Int32)), (2, .int (0 : Int32)), (0, .ref 129), (1, .int x1)]) (st' := []) (h' := hp M) rfl ?_
  refine am_Y.weak (lv2 := [(0, .ref 129), (1, .int x1), (2, .int (0 : Int32)), (3, .int (-1 : Int32)), (4, .int (0 : Int32)), (5, .int (0 : Int32))]) rfl rfl ⟨rfl, rfl, rfl, rfl, rfl, rfl, trivial⟩ ?_
  exact t_m_longest_10 N N x1 (0 : Int32) (-1 : Int32) (0 : Int32) (0 : Int32) M _ h
set_option maxRecDepth 100000 in
theorem t_w_which {S : Nat × (Nat → Int32)} (N : Nat) (x1 : Int32) (M : Mem) (r : Int32) (h : f_w_which N x1 M = some r) : am_Y S 3 0 0 am_M48 0 [(0, .ref 5), (1, .int x1)] [] (hp M) (some (.int r)) (hp M) := by
  rw [f_w_which] at h
  refine am_Y.run (k := 4) (pc' := 8) (lv' := [(0, .ref 5), (1, .int x1)]) (st' := [.int x1, .ref 7]) (h' := hp M) rfl ?_
  refine am_Y.call0 (M' := am_M182) (as := [.ref 7, .int x1]) (rest := []) (d' := 1) rfl (by omega) rfl rfl (t_g_knowsAll x1 M _ rfl) ?_
  refine am_Y.br (c := (f_g_knowsAll x1 M) = (0 : Int32)) _ (t := 14) (u := 16) (lv' := [(0, .ref 5), (1, .int x1)]) (st' := []) (h' := hp M) rfl (fun hc => ?_) (fun hc => ?_)
  · replace h := (if_pos hc).symm.trans h
    refine am_Y.run (k := 1) (pc' := 15) (lv' := [(0, .ref 5), (1, .int x1)]) (st' := [.int (-1 : Int32)]) (h' := hp M) rfl ?_
    obtain rfl := Option.some.inj h
    exact am_Y.ret rfl
  · replace h := (if_neg hc).symm.trans h
    refine am_Y.run (k := 6) (pc' := 30) (lv' := [(0, .ref 5), (1, .int x1)]) (st' := [.ref 11, .ref 11]) (h' := hp M) rfl ?_
    refine am_Y.call0 (M' := am_M161) (as := [.ref 11]) (rest := [.ref 11]) (d' := 0) rfl (by omega) rfl rfl (t_e_written M _ rfl) ?_
    refine am_Y.run (k := 1) (pc' := 34) (lv' := [(0, .ref 5), (1, .int x1)]) (st' := [.int x1, .int (f_e_written M), .ref 11]) (h' := hp M) rfl ?_
    obtain ⟨q1, e_q1, h⟩ := Option.bind_eq_some_iff.mp h
    refine am_Y.call0 (M' := am_M183) (as := [.ref 11, .int (f_e_written M), .int x1]) (rest := []) (d' := 2) rfl (by omega) rfl rfl (t_h_nightsHeldBy N (f_e_written M) x1 M q1 e_q1) ?_
    obtain rfl := Option.some.inj h
    exact am_Y.ret rfl
set_option maxRecDepth 100000 in
theorem t_m_which_14 {S : Nat × (Nat → Int32)} (N : Nat) : ∀ (n : Nat) (x1 : Int32) (x2 : Int32) (x3 : Int32) (M : Mem) (r : Int32), f_m_which_14 N n x1 x2 x3 M = some r → am_Y S 3 0 0 am_M49 14 [(0, .ref 129), (1, .int x1), (2, .int x2), (3, .int x3)] [] (hp M) (some (.int r)) (hp M) := by
  intro n
  induction n with
  | zero =>
    intro x1 x2 x3 M r h
    cases h
  | succ n ih =>
    intro x1 x2 x3 M r h
    rw [f_m_which_14] at h
    refine am_Y.run (k := 2) (pc' := 16) (lv' := [(0, .ref 129), (1, .int x1), (2, .int x2), (3, .int x3)]) (st' := [.ref 129, .int x3]) (h' := hp M) rfl ?_
    refine am_Y.call0 (M' := am_M166) (as := [.ref 129]) (rest := [.int x3]) (d' := 0) rfl (by omega) rfl rfl (t_m_shown M _ rfl) ?_
    refine am_Y.br (c := (f_m_shown M) ≤ x3) _ (t := 47) (u := 22) (lv' := [(0, .ref 129), (1, .int x1), (2, .int x2), (3, .int x3)]) (st' := []) (h' := hp M) rfl (fun hc => ?_) (fun hc => ?_)
    · replace h := (if_pos hc).symm.trans h
      refine am_Y.run (k := 1) (pc' := 48) (lv' := [(0, .ref 129), (1, .int x1), (2, .int x2), (3, .int x3)]) (st' := [.int x2]) (h' := hp M) rfl ?_
      obtain rfl := Option.some.inj h
      exact am_Y.ret rfl
    · replace h := (if_neg hc).symm.trans h
      refine am_Y.run (k := 3) (pc' := 25) (lv' := [(0, .ref 129), (1, .int x1), (2, .int x2), (3, .int x3)]) (st' := [.int x3, .ref 129, .int x2]) (h' := hp M) rfl ?_
      obtain ⟨q1, e_q1, h⟩ := Option.bind_eq_some_iff.mp h
      refine am_Y.call0 (M' := am_M168) (as := [.ref 129, .int x3]) (rest := [.int x2]) (d' := 2) rfl (by omega) rfl rfl (t_m_heldIn x3 M q1 e_q1) ?_
      refine am_Y.run (k := 1) (pc' := 29) (lv' := [(0, .ref 129), (1, .int x1), (2, .int x2), (3, .int x3)]) (st' := [.int x1, .int q1, .int x2]) (h' := hp M) rfl ?_
      refine am_Y.br (c := q1 = x1) _ (t := 32) (u := 38) (lv' := [(0, .ref 129), (1, .int x1), (2, .int x2), (3, .int x3)]) (st' := [.int x2]) (h' := hp M) rfl (fun hc => ?_) (fun hc => ?_)
      · replace h := (if_pos hc).symm.trans h
        refine am_Y.run (k := 8) (pc' := 14) (lv' := [(3, .int (x3 + (1 : Int32))), (2, .int (x2 ||| ((1 : Int32) <<< (x3 &&& 31)))), (0, .ref 129), (1, .int x1)]) (st' := []) (h' := hp M) rfl ?_
        refine am_Y.weak (lv2 := [(0, .ref 129), (1, .int x1), (2, .int (x2 ||| ((1 : Int32) <<< (x3 &&& 31)))), (3, .int (x3 + (1 : Int32)))]) rfl rfl ⟨rfl, rfl, rfl, rfl, trivial⟩ ?_
        exact ih x1 (x2 ||| ((1 : Int32) <<< (x3 &&& 31))) (x3 + (1 : Int32)) M _ h
      · replace h := (if_neg hc).symm.trans h
        refine am_Y.run (k := 5) (pc' := 14) (lv' := [(3, .int (x3 + (1 : Int32))), (2, .int (x2 ||| (0 : Int32))), (0, .ref 129), (1, .int x1)]) (st' := []) (h' := hp M) rfl ?_
        refine am_Y.weak (lv2 := [(0, .ref 129), (1, .int x1), (2, .int (x2 ||| (0 : Int32))), (3, .int (x3 + (1 : Int32)))]) rfl rfl ⟨rfl, rfl, rfl, rfl, trivial⟩ ?_
        exact ih x1 (x2 ||| (0 : Int32)) (x3 + (1 : Int32)) M _ h
set_option maxRecDepth 100000 in
theorem t_m_which {S : Nat × (Nat → Int32)} (N : Nat) (x1 : Int32) (M : Mem) (r : Int32) (h : f_m_which N x1 M = some r) : am_Y S 3 0 0 am_M49 0 [(0, .ref 129), (1, .int x1)] [] (hp M) (some (.int r)) (hp M) := by
  rw [f_m_which] at h
  refine am_Y.run (k := 2) (pc' := 2) (lv' := [(0, .ref 129), (1, .int x1)]) (st' := [.int x1, .ref 129]) (h' := hp M) rfl ?_
  refine am_Y.call0 (M' := am_M184) (as := [.ref 129, .int x1]) (rest := []) (d' := 1) rfl (by omega) rfl rfl (t_m_isSet x1 M _ rfl) ?_
  refine am_Y.br (c := (f_m_isSet x1 M) = (0 : Int32)) _ (t := 8) (u := 10) (lv' := [(0, .ref 129), (1, .int x1)]) (st' := []) (h' := hp M) rfl (fun hc => ?_) (fun hc => ?_)
  · replace h := (if_pos hc).symm.trans h
    refine am_Y.run (k := 1) (pc' := 9) (lv' := [(0, .ref 129), (1, .int x1)]) (st' := [.int (-1 : Int32)]) (h' := hp M) rfl ?_
    obtain rfl := Option.some.inj h
    exact am_Y.ret rfl
  · replace h := (if_neg hc).symm.trans h
    refine am_Y.run (k := 4) (pc' := 14) (lv' := [(3, .int (0 : Int32)), (2, .int (0 : Int32)), (0, .ref 129), (1, .int x1)]) (st' := []) (h' := hp M) rfl ?_
    refine am_Y.weak (lv2 := [(0, .ref 129), (1, .int x1), (2, .int (0 : Int32)), (3, .int (0 : Int32))]) rfl rfl ⟨rfl, rfl, rfl, rfl, trivial⟩ ?_
    exact t_m_which_14 N N x1 (0 : Int32) (0 : Int32) M _ h
set_option maxRecDepth 100000 in
theorem t_w_whispered_47 {S : Nat × (Nat → Int32)} (N : Nat) : ∀ (n : Nat) (x1 : Int32) (x2 : Int32) (x3 : Int32) (x4 : Int32) (x5 : Int32) (M : Mem) (r : Int32), f_w_whispered_47 N n x1 x2 x3 x4 x5 M = some r → am_Y S 2 0 0 am_M50 47 [(0, .ref 5), (1, .int x1), (2, .int x2), (3, .int x3), (4, .int x4), (5, .int x5)] [] (hp M) (some (.int r)) (hp M) := by
  intro n
  induction n with
  | zero =>
    intro x1 x2 x3 x4 x5 M r h
    cases h
  | succ n ih =>
    intro x1 x2 x3 x4 x5 M r h
    rw [f_w_whispered_47] at h
    refine am_Y.run (k := 5) (pc' := 59) (lv' := [(0, .ref 5), (1, .int x1), (2, .int x2), (3, .int x3), (4, .int x4), (5, .int x5)]) (st' := [.int (gi M 7 3), .int x5]) (h' := hp M) rfl ?_
    refine am_Y.br (c := (gi M 7 3) ≤ x5) _ (t := 93) (u := 62) (lv' := [(0, .ref 5), (1, .int x1), (2, .int x2), (3, .int x3), (4, .int x4), (5, .int x5)]) (st' := []) (h' := hp M) rfl (fun hc => ?_) (fun hc => ?_)
    · replace h := (if_pos hc).symm.trans h
      refine am_Y.run (k := 1) (pc' := 95) (lv' := [(0, .ref 5), (1, .int x1), (2, .int x2), (3, .int x3), (4, .int x4), (5, .int x5)]) (st' := [.int x4]) (h' := hp M) rfl ?_
      obtain rfl := Option.some.inj h
      exact am_Y.ret rfl
    · replace h := (if_neg hc).symm.trans h
      refine am_Y.run (k := 5) (pc' := 68) (lv' := [(0, .ref 5), (1, .int x1), (2, .int x2), (3, .int x3), (4, .int x4), (5, .int x5)]) (st' := [.int ((1 : Int32) <<< (x5 &&& 31)), .int x1, .int x3]) (h' := hp M) rfl ?_
      refine am_Y.call0 (M' := am_M189) (as := [.int x3, .int x1, .int ((1 : Int32) <<< (x5 &&& 31))]) (rest := []) (d' := 0) rfl (by omega) rfl rfl (t_w_joined x3 x1 ((1 : Int32) <<< (x5 &&& 31)) M _ rfl) ?_
      refine am_Y.call0 (M' := am_M190) (as := [.int (f_w_joined x3 x1 ((1 : Int32) <<< (x5 &&& 31)) M)]) (rest := []) (d' := 0) rfl (by omega) rfl rfl (t_w_holders (f_w_joined x3 x1 ((1 : Int32) <<< (x5 &&& 31)) M) M _ rfl) ?_
      refine am_Y.run (k := 1) (pc' := 75) (lv' := [(0, .ref 5), (1, .int x1), (2, .int x2), (3, .int x3), (4, .int x4), (5, .int x5)]) (st' := [.int x2, .int (f_w_holders (f_w_joined x3 x1 ((1 : Int32) <<< (x5 &&& 31)) M) M)]) (h' := hp M) rfl ?_
      refine am_Y.br (c := (f_w_holders (f_w_joined x3 x1 ((1 : Int32) <<< (x5 &&& 31)) M) M) = x2) _ (t := 78) (u := 87) (lv' := [(0, .ref 5), (1, .int x1), (2, .int x2), (3, .int x3), (4, .int x4), (5, .int x5)]) (st' := []) (h' := hp M) rfl (fun hc => ?_) (fun hc => ?_)
      · replace h := (if_pos hc).symm.trans h
        refine am_Y.run (k := 8) (pc' := 47) (lv' := [(5, .int (x5 + (1 : Int32))), (4, .int (x4 ||| ((1 : Int32) <<< (x5 &&& 31)))), (0, .ref 5), (1, .int x1), (2, .int x2), (3, .int x3)]) (st' := []) (h' := hp M) rfl ?_
        refine am_Y.weak (lv2 := [(0, .ref 5), (1, .int x1), (2, .int x2), (3, .int x3), (4, .int (x4 ||| ((1 : Int32) <<< (x5 &&& 31)))), (5, .int (x5 + (1 : Int32)))]) rfl rfl ⟨rfl, rfl, rfl, rfl, rfl, rfl, trivial⟩ ?_
        exact ih x1 x2 x3 (x4 ||| ((1 : Int32) <<< (x5 &&& 31))) (x5 + (1 : Int32)) M _ h
      · replace h := (if_neg hc).symm.trans h
        refine am_Y.run (k := 2) (pc' := 47) (lv' := [(5, .int (x5 + (1 : Int32))), (0, .ref 5), (1, .int x1), (2, .int x2), (3, .int x3), (4, .int x4)]) (st' := []) (h' := hp M) rfl ?_
        refine am_Y.weak (lv2 := [(0, .ref 5), (1, .int x1), (2, .int x2), (3, .int x3), (4, .int x4), (5, .int (x5 + (1 : Int32)))]) rfl rfl ⟨rfl, rfl, rfl, rfl, rfl, rfl, trivial⟩ ?_
        exact ih x1 x2 x3 x4 (x5 + (1 : Int32)) M _ h
set_option maxRecDepth 100000 in
theorem t_w_whispered {S : Nat × (Nat → Int32)} (N : Nat) (x1 : Int32) (x2 : Int32) (M : Mem) (r : Int32) (h : f_w_whispered N x1 x2 M = some r) : am_Y S 2 0 0 am_M50 0 [(0, .ref 5), (1, .int x1), (2, .int x2)] [] (hp M) (some (.int r)) (hp M) := by
  rw [f_w_whispered] at h
  refine am_Y.run (k := 3) (pc' := 5) (lv' := [(0, .ref 5), (1, .int x1), (2, .int x2)]) (st' := [.int (999 : Int32), .int (0 : Int32), .int x1]) (h' := hp M) rfl ?_
  refine am_Y.call0 (M' := am_M102) (as := [.int x1, .int (0 : Int32), .int (999 : Int32)]) (rest := []) (d' := 0) rfl (by omega) rfl rfl (t_w_within x1 (0 : Int32) (999 : Int32) M _ rfl) ?_
  refine am_Y.br (c := (f_w_within x1 (0 : Int32) (999 : Int32) M) = (0 : Int32)) _ (t := 25) (u := 11) (lv' := [(0, .ref 5), (1, .int x1), (2, .int x2)]) (st' := []) (h' := hp M) rfl (fun hc => ?_) (fun hc => ?_)
  · replace h := (if_pos hc).symm.trans h
    refine am_Y.run (k := 1) (pc' := 26) (lv' := [(0, .ref 5), (1, .int x1), (2, .int x2)]) (st' := [.int (-1 : Int32)]) (h' := hp M) rfl ?_
    obtain rfl := Option.some.inj h
    exact am_Y.ret rfl
  · replace h := (if_neg hc).symm.trans h
    refine am_Y.run (k := 4) (pc' := 19) (lv' := [(0, .ref 5), (1, .int x1), (2, .int x2)]) (st' := [.int x2, .ref 7]) (h' := hp M) rfl ?_
    refine am_Y.call0 (M' := am_M182) (as := [.ref 7, .int x2]) (rest := []) (d' := 1) rfl (by omega) rfl rfl (t_g_knowsAll x2 M _ rfl) ?_
    refine am_Y.br (c := (f_g_knowsAll x2 M) = (0 : Int32)) _ (t := 25) (u := 27) (lv' := [(0, .ref 5), (1, .int x1), (2, .int x2)]) (st' := []) (h' := hp M) rfl (fun hc => ?_) (fun hc => ?_)
    · replace h := (if_pos hc).symm.trans h
      refine am_Y.run (k := 1) (pc' := 26) (lv' := [(0, .ref 5), (1, .int x1), (2, .int x2)]) (st' := [.int (-1 : Int32)]) (h' := hp M) rfl ?_
      obtain rfl := Option.some.inj h
      exact am_Y.ret rfl
    · replace h := (if_neg hc).symm.trans h
      refine am_Y.run (k := 4) (pc' := 37) (lv' := [(0, .ref 5), (1, .int x1), (2, .int x2)]) (st' := [.int (1000000 : Int32), .ref 11]) (h' := hp M) rfl ?_
      obtain ⟨q1, e_q1, h⟩ := Option.bind_eq_some_iff.mp h
      refine am_Y.call0 (M' := am_M188) (as := [.ref 11, .int (1000000 : Int32)]) (rest := []) (d' := 1) rfl (by omega) rfl rfl (t_e_standing N (1000000 : Int32) M q1 e_q1) ?_
      refine am_Y.run (k := 5) (pc' := 47) (lv' := [(5, .int (0 : Int32)), (4, .int (0 : Int32)), (3, .int q1), (0, .ref 5), (1, .int x1), (2, .int x2)]) (st' := []) (h' := hp M) rfl ?_
      refine am_Y.weak (lv2 := [(0, .ref 5), (1, .int x1), (2, .int x2), (3, .int q1), (4, .int (0 : Int32)), (5, .int (0 : Int32))]) rfl rfl ⟨rfl, rfl, rfl, rfl, rfl, rfl, trivial⟩ ?_
      exact t_w_whispered_47 N N x1 x2 q1 (0 : Int32) (0 : Int32) M _ h
set_option maxRecDepth 100000 in
theorem t_m_holdWith {S : Nat × (Nat → Int32)} (N : Nat) (x1 : Int32) (x2 : Int32) (M : Mem) (r : Int32) (M' : Mem) (h : f_m_holdWith N x1 x2 M = some (r, M')) : am_Y S 3 0 0 am_M191 0 [(0, .ref 129), (1, .int x1), (2, .int x2)] [] (hp M) (some (.int r)) (hp M') := by
  rw [f_m_holdWith] at h
  refine am_Y.run (k := 1) (pc' := 1) (lv' := [(0, .ref 129), (1, .int x1), (2, .int x2)]) (st' := [.ref 129]) (h' := hp M) rfl ?_
  obtain ⟨q1, e_q1, h⟩ := Option.bind_eq_some_iff.mp h
  refine am_Y.call0 (M' := am_M149) (as := [.ref 129]) (rest := []) (d' := 2) rfl (by omega) rfl rfl (t_m_wouldHold N M q1.1 q1.2 e_q1) ?_
  refine am_Y.br (c := (0 : Int32) ≤ q1.1) _ (t := 9) (u := 7) (lv' := [(0, .ref 129), (1, .int x1), (2, .int x2)]) (st' := []) (h' := hp q1.2) rfl (fun hc => ?_) (fun hc => ?_)
  · replace h := (if_pos hc).symm.trans h
    refine am_Y.run (k := 3) (pc' := 12) (lv' := [(0, .ref 129), (1, .int x1), (2, .int x2)]) (st' := [.int x2, .int x1, .ref 129]) (h' := hp q1.2) rfl ?_
    obtain ⟨q2, e_q2, h⟩ := Option.bind_eq_some_iff.mp h
    refine am_Y.call0 (M' := am_M205) (as := [.ref 129, .int x1, .int x2]) (rest := []) (d' := 0) rfl (by omega) rfl rfl (t_m_consider x1 x2 q1.2 q2 e_q2) ?_
    refine am_Y.run (k := 2) (pc' := 19) (lv' := [(0, .ref 129), (1, .int x1), (2, .int x2)]) (st' := [.int (gi q2 129 29)]) (h' := hp q2) rfl ?_
    obtain ⟨rfl, rfl⟩ := Prod.mk.inj (Option.some.inj h)
    exact am_Y.ret rfl
  · replace h := (if_neg hc).symm.trans h
    refine am_Y.run (k := 1) (pc' := 8) (lv' := [(0, .ref 129), (1, .int x1), (2, .int x2)]) (st' := [.int (0 : Int32)]) (h' := hp q1.2) rfl ?_
    obtain ⟨rfl, rfl⟩ := Prod.mk.inj (Option.some.inj h)
    exact am_Y.ret rfl
set_option maxRecDepth 100000 in
theorem t_m_whispered_26 {S : Nat × (Nat → Int32)} (N : Nat) : ∀ (n : Nat) (x1 : Int32) (x2 : Int32) (x3 : Int32) (x4 : Int32) (M : Mem) (r : Int32) (M' : Mem), f_m_whispered_26 N n x1 x2 x3 x4 M = some (r, M') → am_Y S 4 0 0 am_M51 26 [(0, .ref 129), (1, .int x1), (2, .int x2), (3, .int x3), (4, .int x4)] [] (hp M) (some (.int r)) (hp M') := by
  intro n
  induction n with
  | zero =>
    intro x1 x2 x3 x4 M r M' h
    cases h
  | succ n ih =>
    intro x1 x2 x3 x4 M r M' h
    rw [f_m_whispered_26] at h
    refine am_Y.run (k := 5) (pc' := 34) (lv' := [(0, .ref 129), (1, .int x1), (2, .int x2), (3, .int x3), (4, .int x4)]) (st' := [.int (gi M 130 0), .int x4]) (h' := hp M) rfl ?_
    refine am_Y.br (c := (gi M 130 0) ≤ x4) _ (t := 65) (u := 37) (lv' := [(0, .ref 129), (1, .int x1), (2, .int x2), (3, .int x3), (4, .int x4)]) (st' := []) (h' := hp M) rfl (fun hc => ?_) (fun hc => ?_)
    · replace h := (if_pos hc).symm.trans h
      refine am_Y.run (k := 1) (pc' := 66) (lv' := [(0, .ref 129), (1, .int x1), (2, .int x2), (3, .int x3), (4, .int x4)]) (st' := [.int x3]) (h' := hp M) rfl ?_
      obtain ⟨rfl, rfl⟩ := Prod.mk.inj (Option.some.inj h)
      exact am_Y.ret rfl
    · replace h := (if_neg hc).symm.trans h
      refine am_Y.run (k := 4) (pc' := 42) (lv' := [(0, .ref 129), (1, .int x1), (2, .int x2), (3, .int x3), (4, .int x4)]) (st' := [.int x1, .int x4, .ref 129, .int x3]) (h' := hp M) rfl ?_
      obtain ⟨q1, e_q1, h⟩ := Option.bind_eq_some_iff.mp h
      refine am_Y.call0 (M' := am_M191) (as := [.ref 129, .int x4, .int x1]) (rest := [.int x3]) (d' := 3) rfl (by omega) rfl rfl (t_m_holdWith N x4 x1 M q1.1 q1.2 e_q1) ?_
      refine am_Y.run (k := 1) (pc' := 46) (lv' := [(0, .ref 129), (1, .int x1), (2, .int x2), (3, .int x3), (4, .int x4)]) (st' := [.int x2, .int q1.1, .int x3]) (h' := hp q1.2) rfl ?_
      refine am_Y.br (c := q1.1 = x2) _ (t := 49) (u := 56) (lv' := [(0, .ref 129), (1, .int x1), (2, .int x2), (3, .int x3), (4, .int x4)]) (st' := [.int x3]) (h' := hp q1.2) rfl (fun hc => ?_) (fun hc => ?_)
      · replace h := (if_pos hc).symm.trans h
        refine am_Y.run (k := 8) (pc' := 26) (lv' := [(4, .int (x4 + (1 : Int32))), (3, .int (x3 ||| ((1 : Int32) <<< (x4 &&& 31)))), (0, .ref 129), (1, .int x1), (2, .int x2)]) (st' := []) (h' := hp q1.2) rfl ?_
        refine am_Y.weak (lv2 := [(0, .ref 129), (1, .int x1), (2, .int x2), (3, .int (x3 ||| ((1 : Int32) <<< (x4 &&& 31)))), (4, .int (x4 + (1 : Int32)))]) rfl rfl ⟨rfl, rfl, rfl, rfl, rfl, trivial⟩ ?_
        exact ih x1 x2 (x3 ||| ((1 : Int32) <<< (x4 &&& 31))) (x4 + (1 : Int32)) q1.2 _ _ h
      · replace h := (if_neg hc).symm.trans h
        refine am_Y.run (k := 5) (pc' := 26) (lv' := [(4, .int (x4 + (1 : Int32))), (3, .int (x3 ||| (0 : Int32))), (0, .ref 129), (1, .int x1), (2, .int x2)]) (st' := []) (h' := hp q1.2) rfl ?_
        refine am_Y.weak (lv2 := [(0, .ref 129), (1, .int x1), (2, .int x2), (3, .int (x3 ||| (0 : Int32))), (4, .int (x4 + (1 : Int32)))]) rfl rfl ⟨rfl, rfl, rfl, rfl, rfl, trivial⟩ ?_
        exact ih x1 x2 (x3 ||| (0 : Int32)) (x4 + (1 : Int32)) q1.2 _ _ h
set_option maxRecDepth 100000 in
theorem t_m_whispered {S : Nat × (Nat → Int32)} (N : Nat) (x1 : Int32) (x2 : Int32) (M : Mem) (r : Int32) (M' : Mem) (h : f_m_whispered N x1 x2 M = some (r, M')) : am_Y S 4 0 0 am_M51 0 [(0, .ref 129), (1, .int x1), (2, .int x2)] [] (hp M) (some (.int r)) (hp M') := by
  rw [f_m_whispered] at h
  refine am_Y.run (k := 3) (pc' := 5) (lv' := [(0, .ref 129), (1, .int x1), (2, .int x2)]) (st' := [.int (999 : Int32), .int (0 : Int32), .int x1]) (h' := hp M) rfl ?_
  refine am_Y.call0 (M' := am_M104) (as := [.int x1, .int (0 : Int32), .int (999 : Int32)]) (rest := []) (d' := 0) rfl (by omega) rfl rfl (t_m_isIn x1 (0 : Int32) (999 : Int32) M _ rfl) ?_
  refine am_Y.br (c := (f_m_isIn x1 (0 : Int32) (999 : Int32) M) = (0 : Int32)) _ (t := 19) (u := 11) (lv' := [(0, .ref 129), (1, .int x1), (2, .int x2)]) (st' := []) (h' := hp M) rfl (fun hc => ?_) (fun hc => ?_)
  · replace h := (if_pos hc).symm.trans h
    refine am_Y.run (k := 1) (pc' := 20) (lv' := [(0, .ref 129), (1, .int x1), (2, .int x2)]) (st' := [.int (-1 : Int32)]) (h' := hp M) rfl ?_
    obtain ⟨rfl, rfl⟩ := Prod.mk.inj (Option.some.inj h)
    exact am_Y.ret rfl
  · replace h := (if_neg hc).symm.trans h
    refine am_Y.run (k := 2) (pc' := 13) (lv' := [(0, .ref 129), (1, .int x1), (2, .int x2)]) (st' := [.int x2, .ref 129]) (h' := hp M) rfl ?_
    refine am_Y.call0 (M' := am_M184) (as := [.ref 129, .int x2]) (rest := []) (d' := 1) rfl (by omega) rfl rfl (t_m_isSet x2 M _ rfl) ?_
    refine am_Y.br (c := (f_m_isSet x2 M) = (0 : Int32)) _ (t := 19) (u := 21) (lv' := [(0, .ref 129), (1, .int x1), (2, .int x2)]) (st' := []) (h' := hp M) rfl (fun hc => ?_) (fun hc => ?_)
    · replace h := (if_pos hc).symm.trans h
      refine am_Y.run (k := 1) (pc' := 20) (lv' := [(0, .ref 129), (1, .int x1), (2, .int x2)]) (st' := [.int (-1 : Int32)]) (h' := hp M) rfl ?_
      obtain ⟨rfl, rfl⟩ := Prod.mk.inj (Option.some.inj h)
      exact am_Y.ret rfl
    · replace h := (if_neg hc).symm.trans h
      refine am_Y.run (k := 4) (pc' := 26) (lv' := [(4, .int (0 : Int32)), (3, .int (0 : Int32)), (0, .ref 129), (1, .int x1), (2, .int x2)]) (st' := []) (h' := hp M) rfl ?_
      refine am_Y.weak (lv2 := [(0, .ref 129), (1, .int x1), (2, .int x2), (3, .int (0 : Int32)), (4, .int (0 : Int32))]) rfl rfl ⟨rfl, rfl, rfl, rfl, rfl, trivial⟩ ?_
      exact t_m_whispered_26 N N x1 x2 (0 : Int32) (0 : Int32) M _ _ h
set_option maxRecDepth 100000 in
theorem t_w_twoWhispered_80 {S : Nat × (Nat → Int32)} (N : Nat) (K59 : Int32 → Int32 → Int32 → Int32 → Int32 → Int32 → Int32 → Mem → Option Int32) (hK59 : ∀ (x1 : Int32) (x2 : Int32) (x3 : Int32) (x4 : Int32) (x5 : Int32) (x6 : Int32) (x7 : Int32) (M : Mem) (r : Int32), K59 x1 x2 x3 x4 x5 x6 x7 M = some r → am_Y S 2 0 0 am_M52 59 [(0, .ref 5), (1, .int x1), (2, .int x2), (3, .int x3), (4, .int x4), (5, .int x5), (6, .int x6), (7, .int x7)] [] (hp M) (some (.int r)) (hp M)) : ∀ (n : Nat) (x1 : Int32) (x2 : Int32) (x3 : Int32) (x4 : Int32) (x5 : Int32) (x6 : Int32) (x7 : Int32) (x8 : Int32) (M : Mem) (r : Int32), f_w_twoWhispered_80 N K59 n x1 x2 x3 x4 x5 x6 x7 x8 M = some r → am_Y S 2 0 0 am_M52 80 [(0, .ref 5), (1, .int x1), (2, .int x2), (3, .int x3), (4, .int x4), (5, .int x5), (6, .int x6), (7, .int x7), (8, .int x8)] [] (hp M) (some (.int r)) (hp M) := by
  intro n
  induction n with
  | zero =>
    intro x1 x2 x3 x4 x5 x6 x7 x8 M r h
    cases h
  | succ n ih =>
    intro x1 x2 x3 x4 x5 x6 x7 x8 M r h
    rw [f_w_twoWhispered_80] at h
    refine am_Y.run (k := 5) (pc' := 92) (lv' := [(0, .ref 5), (1, .int x1), (2, .int x2), (3, .int x3), (4, .int x4), (5, .int x5), (6, .int x6), (7, .int x7), (8, .int x8)]) (st' := [.int (gi M 7 3), .int x8]) (h' := hp M) rfl ?_
    refine am_Y.br (c := (gi M 7 3) ≤ x8) _ (t := 178) (u := 95) (lv' := [(0, .ref 5), (1, .int x1), (2, .int x2), (3, .int x3), (4, .int x4), (5, .int x5), (6, .int x6), (7, .int x7), (8, .int x8)]) (st' := []) (h' := hp M) rfl (fun hc => ?_) (fun hc => ?_)
    · replace h := (if_pos hc).symm.trans h
      refine am_Y.run (k := 2) (pc' := 59) (lv' := [(7, .int (x7 + (1 : Int32))), (0, .ref 5), (1, .int x1), (2, .int x2), (3, .int x3), (4, .int x4), (5, .int x5), (6, .int x6), (8, .int x8)]) (st' := []) (h' := hp M) rfl ?_
      refine am_Y.weak (lv2 := [(0, .ref 5), (1, .int x1), (2, .int x2), (3, .int x3), (4, .int x4), (5, .int x5), (6, .int x6), (7, .int (x7 + (1 : Int32)))]) rfl rfl ⟨rfl, rfl, rfl, rfl, rfl, rfl, rfl, rfl, trivial⟩ ?_
      exact hK59 x1 x2 x3 x4 x5 x6 (x7 + (1 : Int32)) M _ h
    · replace h := (if_neg hc).symm.trans h
      refine am_Y.run (k := 5) (pc' := 102) (lv' := [(0, .ref 5), (1, .int x1), (2, .int x2), (3, .int x3), (4, .int x4), (5, .int x5), (6, .int x6), (7, .int x7), (8, .int x8)]) (st' := [.int ((1 : Int32) <<< (x7 &&& 31)), .int x1, .int x5]) (h' := hp M) rfl ?_
      refine am_Y.call0 (M' := am_M189) (as := [.int x5, .int x1, .int ((1 : Int32) <<< (x7 &&& 31))]) (rest := []) (d' := 0) rfl (by omega) rfl rfl (t_w_joined x5 x1 ((1 : Int32) <<< (x7 &&& 31)) M _ rfl) ?_
      refine am_Y.run (k := 4) (pc' := 110) (lv' := [(0, .ref 5), (1, .int x1), (2, .int x2), (3, .int x3), (4, .int x4), (5, .int x5), (6, .int x6), (7, .int x7), (8, .int x8)]) (st' := [.int ((1 : Int32) <<< (x8 &&& 31)), .int x2, .int (f_w_joined x5 x1 ((1 : Int32) <<< (x7 &&& 31)) M)]) (h' := hp M) rfl ?_
      refine am_Y.call0 (M' := am_M189) (as := [.int (f_w_joined x5 x1 ((1 : Int32) <<< (x7 &&& 31)) M), .int x2, .int ((1 : Int32) <<< (x8 &&& 31))]) (rest := []) (d' := 0) rfl (by omega) rfl rfl (t_w_joined (f_w_joined x5 x1 ((1 : Int32) <<< (x7 &&& 31)) M) x2 ((1 : Int32) <<< (x8 &&& 31)) M _ rfl) ?_
      refine am_Y.run (k := 6) (pc' := 122) (lv' := [(9, .int (f_w_joined (f_w_joined x5 x1 ((1 : Int32) <<< (x7 &&& 31)) M) x2 ((1 : Int32) <<< (x8 &&& 31)) M)), (0, .ref 5), (1, .int x1), (2, .int x2), (3, .int x3), (4, .int x4), (5, .int x5), (6, .int x6), (7, .int x7), (8, .int x8)]) (st' := [.int ((1 : Int32) <<< (x8 &&& 31)), .int x1, .int x5]) (h' := hp M) rfl ?_
      refine am_Y.call0 (M' := am_M189) (as := [.int x5, .int x1, .int ((1 : Int32) <<< (x8 &&& 31))]) (rest := []) (d' := 0) rfl (by omega) rfl rfl (t_w_joined x5 x1 ((1 : Int32) <<< (x8 &&& 31)) M _ rfl) ?_
      refine am_Y.run (k := 4) (pc' := 130) (lv' := [(9, .int (f_w_joined (f_w_joined x5 x1 ((1 : Int32) <<< (x7 &&& 31)) M) x2 ((1 : Int32) <<< (x8 &&& 31)) M)), (0, .ref 5), (1, .int x1), (2, .int x2), (3, .int x3), (4, .int x4), (5, .int x5), (6, .int x6), (7, .int x7), (8, .int x8)]) (st' := [.int ((1 : Int32) <<< (x7 &&& 31)), .int x2, .int (f_w_joined x5 x1 ((1 : Int32) <<< (x8 &&& 31)) M)]) (h' := hp M) rfl ?_
      refine am_Y.call0 (M' := am_M189) (as := [.int (f_w_joined x5 x1 ((1 : Int32) <<< (x8 &&& 31)) M), .int x2, .int ((1 : Int32) <<< (x7 &&& 31))]) (rest := []) (d' := 0) rfl (by omega) rfl rfl (t_w_joined (f_w_joined x5 x1 ((1 : Int32) <<< (x8 &&& 31)) M) x2 ((1 : Int32) <<< (x7 &&& 31)) M _ rfl) ?_
      refine am_Y.run (k := 2) (pc' := 137) (lv' := [(10, .int (f_w_joined (f_w_joined x5 x1 ((1 : Int32) <<< (x8 &&& 31)) M) x2 ((1 : Int32) <<< (x7 &&& 31)) M)), (9, .int (f_w_joined (f_w_joined x5 x1 ((1 : Int32) <<< (x7 &&& 31)) M) x2 ((1 : Int32) <<< (x8 &&& 31)) M)), (0, .ref 5), (1, .int x1), (2, .int x2), (3, .int x3), (4, .int x4), (5, .int x5), (6, .int x6), (7, .int x7), (8, .int x8)]) (st' := [.int (f_w_joined (f_w_joined x5 x1 ((1 : Int32) <<< (x7 &&& 31)) M) x2 ((1 : Int32) <<< (x8 &&& 31)) M)]) (h' := hp M) rfl ?_
      refine am_Y.call0 (M' := am_M190) (as := [.int (f_w_joined (f_w_joined x5 x1 ((1 : Int32) <<< (x7 &&& 31)) M) x2 ((1 : Int32) <<< (x8 &&& 31)) M)]) (rest := []) (d' := 0) rfl (by omega) rfl rfl (t_w_holders (f_w_joined (f_w_joined x5 x1 ((1 : Int32) <<< (x7 &&& 31)) M) x2 ((1 : Int32) <<< (x8 &&& 31)) M) M _ rfl) ?_
      refine am_Y.run (k := 1) (pc' := 141) (lv' := [(10, .int (f_w_joined (f_w_joined x5 x1 ((1 : Int32) <<< (x8 &&& 31)) M) x2 ((1 : Int32) <<< (x7 &&& 31)) M)), (9, .int (f_w_joined (f_w_joined x5 x1 ((1 : Int32) <<< (x7 &&& 31)) M) x2 ((1 : Int32) <<< (x8 &&& 31)) M)), (0, .ref 5), (1, .int x1), (2, .int x2), (3, .int x3), (4, .int x4), (5, .int x5), (6, .int x6), (7, .int x7), (8, .int x8)]) (st' := [.int x3, .int (f_w_holders (f_w_joined (f_w_joined x5 x1 ((1 : Int32) <<< (x7 &&& 31)) M) x2 ((1 : Int32) <<< (x8 &&& 31)) M) M)]) (h' := hp M) rfl ?_
      refine am_Y.br (c := (f_w_holders (f_w_joined (f_w_joined x5 x1 ((1 : Int32) <<< (x7 &&& 31)) M) x2 ((1 : Int32) <<< (x8 &&& 31)) M) M) = x3) _ (t := 153) (u := 144) (lv' := [(10, .int (f_w_joined (f_w_joined x5 x1 ((1 : Int32) <<< (x8 &&& 31)) M) x2 ((1 : Int32) <<< (x7 &&& 31)) M)), (9, .int (f_w_joined (f_w_joined x5 x1 ((1 : Int32) <<< (x7 &&& 31)) M) x2 ((1 : Int32) <<< (x8 &&& 31)) M)), (0, .ref 5), (1, .int x1), (2, .int x2), (3, .int x3), (4, .int x4), (5, .int x5), (6, .int x6), (7, .int x7), (8, .int x8)]) (st' := []) (h' := hp M) rfl (fun hc => ?_) (fun hc => ?_)
      · replace h := (if_pos hc).symm.trans h
        refine am_Y.run (k := 2) (pc' := 157) (lv' := [(10, .int (f_w_joined (f_w_joined x5 x1 ((1 : Int32) <<< (x8 &&& 31)) M) x2 ((1 : Int32) <<< (x7 &&& 31)) M)), (9, .int (f_w_joined (f_w_joined x5 x1 ((1 : Int32) <<< (x7 &&& 31)) M) x2 ((1 : Int32) <<< (x8 &&& 31)) M)), (0, .ref 5), (1, .int x1), (2, .int x2), (3, .int x3), (4, .int x4), (5, .int x5), (6, .int x6), (7, .int x7), (8, .int x8)]) (st' := [.int x4, .int x6]) (h' := hp M) rfl ?_
        refine am_Y.br (c := x6 = x4) _ (t := 160) (u := 169) (lv' := [(10, .int (f_w_joined (f_w_joined x5 x1 ((1 : Int32) <<< (x8 &&& 31)) M) x2 ((1 : Int32) <<< (x7 &&& 31)) M)), (9, .int (f_w_joined (f_w_joined x5 x1 ((1 : Int32) <<< (x7 &&& 31)) M) x2 ((1 : Int32) <<< (x8 &&& 31)) M)), (0, .ref 5), (1, .int x1), (2, .int x2), (3, .int x3), (4, .int x4), (5, .int x5), (6, .int x6), (7, .int x7), (8, .int x8)]) (st' := []) (h' := hp M) rfl (fun hc => ?_) (fun hc => ?_)
        · replace h := (if_pos hc).symm.trans h
          refine am_Y.run (k := 5) (pc' := 168) (lv' := [(10, .int (f_w_joined (f_w_joined x5 x1 ((1 : Int32) <<< (x8 &&& 31)) M) x2 ((1 : Int32) <<< (x7 &&& 31)) M)), (9, .int (f_w_joined (f_w_joined x5 x1 ((1 : Int32) <<< (x7 &&& 31)) M) x2 ((1 : Int32) <<< (x8 &&& 31)) M)), (0, .ref 5), (1, .int x1), (2, .int x2), (3, .int x3), (4, .int x4), (5, .int x5), (6, .int x6), (7, .int x7), (8, .int x8)]) (st' := [.int (((8 : Int32) * x7) + x8)]) (h' := hp M) rfl ?_
          obtain rfl := Option.some.inj h
          exact am_Y.ret rfl
        · replace h := (if_neg hc).symm.trans h
          refine am_Y.run (k := 3) (pc' := 80) (lv' := [(8, .int (x8 + (1 : Int32))), (6, .int (x6 + (1 : Int32))), (10, .int (f_w_joined (f_w_joined x5 x1 ((1 : Int32) <<< (x8 &&& 31)) M) x2 ((1 : Int32) <<< (x7 &&& 31)) M)), (9, .int (f_w_joined (f_w_joined x5 x1 ((1 : Int32) <<< (x7 &&& 31)) M) x2 ((1 : Int32) <<< (x8 &&& 31)) M)), (0, .ref 5), (1, .int x1), (2, .int x2), (3, .int x3), (4, .int x4), (5, .int x5), (7, .int x7)]) (st' := []) (h' := hp M) rfl ?_
          refine am_Y.weak (lv2 := [(0, .ref 5), (1, .int x1), (2, .int x2), (3, .int x3), (4, .int x4), (5, .int x5), (6, .int (x6 + (1 : Int32))), (7, .int x7), (8, .int (x8 + (1 : Int32)))]) rfl rfl ⟨rfl, rfl, rfl, rfl, rfl, rfl, rfl, rfl, rfl, trivial⟩ ?_
          exact ih x1 x2 x3 x4 x5 (x6 + (1 : Int32)) x7 (x8 + (1 : Int32)) M _ h
      · replace h := (if_neg hc).symm.trans h
        refine am_Y.run (k := 1) (pc' := 146) (lv' := [(10, .int (f_w_joined (f_w_joined x5 x1 ((1 : Int32) <<< (x8 &&& 31)) M) x2 ((1 : Int32) <<< (x7 &&& 31)) M)), (9, .int (f_w_joined (f_w_joined x5 x1 ((1 : Int32) <<< (x7 &&& 31)) M) x2 ((1 : Int32) <<< (x8 &&& 31)) M)), (0, .ref 5), (1, .int x1), (2, .int x2), (3, .int x3), (4, .int x4), (5, .int x5), (6, .int x6), (7, .int x7), (8, .int x8)]) (st' := [.int (f_w_joined (f_w_joined x5 x1 ((1 : Int32) <<< (x8 &&& 31)) M) x2 ((1 : Int32) <<< (x7 &&& 31)) M)]) (h' := hp M) rfl ?_
        refine am_Y.call0 (M' := am_M190) (as := [.int (f_w_joined (f_w_joined x5 x1 ((1 : Int32) <<< (x8 &&& 31)) M) x2 ((1 : Int32) <<< (x7 &&& 31)) M)]) (rest := []) (d' := 0) rfl (by omega) rfl rfl (t_w_holders (f_w_joined (f_w_joined x5 x1 ((1 : Int32) <<< (x8 &&& 31)) M) x2 ((1 : Int32) <<< (x7 &&& 31)) M) M _ rfl) ?_
        refine am_Y.run (k := 1) (pc' := 150) (lv' := [(10, .int (f_w_joined (f_w_joined x5 x1 ((1 : Int32) <<< (x8 &&& 31)) M) x2 ((1 : Int32) <<< (x7 &&& 31)) M)), (9, .int (f_w_joined (f_w_joined x5 x1 ((1 : Int32) <<< (x7 &&& 31)) M) x2 ((1 : Int32) <<< (x8 &&& 31)) M)), (0, .ref 5), (1, .int x1), (2, .int x2), (3, .int x3), (4, .int x4), (5, .int x5), (6, .int x6), (7, .int x7), (8, .int x8)]) (st' := [.int x3, .int (f_w_holders (f_w_joined (f_w_joined x5 x1 ((1 : Int32) <<< (x8 &&& 31)) M) x2 ((1 : Int32) <<< (x7 &&& 31)) M) M)]) (h' := hp M) rfl ?_
        refine am_Y.br (c := (f_w_holders (f_w_joined (f_w_joined x5 x1 ((1 : Int32) <<< (x8 &&& 31)) M) x2 ((1 : Int32) <<< (x7 &&& 31)) M) M) = x3) _ (t := 153) (u := 172) (lv' := [(10, .int (f_w_joined (f_w_joined x5 x1 ((1 : Int32) <<< (x8 &&& 31)) M) x2 ((1 : Int32) <<< (x7 &&& 31)) M)), (9, .int (f_w_joined (f_w_joined x5 x1 ((1 : Int32) <<< (x7 &&& 31)) M) x2 ((1 : Int32) <<< (x8 &&& 31)) M)), (0, .ref 5), (1, .int x1), (2, .int x2), (3, .int x3), (4, .int x4), (5, .int x5), (6, .int x6), (7, .int x7), (8, .int x8)]) (st' := []) (h' := hp M) rfl (fun hc => ?_) (fun hc => ?_)
        · replace h := (if_pos hc).symm.trans h
          refine am_Y.run (k := 2) (pc' := 157) (lv' := [(10, .int (f_w_joined (f_w_joined x5 x1 ((1 : Int32) <<< (x8 &&& 31)) M) x2 ((1 : Int32) <<< (x7 &&& 31)) M)), (9, .int (f_w_joined (f_w_joined x5 x1 ((1 : Int32) <<< (x7 &&& 31)) M) x2 ((1 : Int32) <<< (x8 &&& 31)) M)), (0, .ref 5), (1, .int x1), (2, .int x2), (3, .int x3), (4, .int x4), (5, .int x5), (6, .int x6), (7, .int x7), (8, .int x8)]) (st' := [.int x4, .int x6]) (h' := hp M) rfl ?_
          refine am_Y.br (c := x6 = x4) _ (t := 160) (u := 169) (lv' := [(10, .int (f_w_joined (f_w_joined x5 x1 ((1 : Int32) <<< (x8 &&& 31)) M) x2 ((1 : Int32) <<< (x7 &&& 31)) M)), (9, .int (f_w_joined (f_w_joined x5 x1 ((1 : Int32) <<< (x7 &&& 31)) M) x2 ((1 : Int32) <<< (x8 &&& 31)) M)), (0, .ref 5), (1, .int x1), (2, .int x2), (3, .int x3), (4, .int x4), (5, .int x5), (6, .int x6), (7, .int x7), (8, .int x8)]) (st' := []) (h' := hp M) rfl (fun hc => ?_) (fun hc => ?_)
          · replace h := (if_pos hc).symm.trans h
            refine am_Y.run (k := 5) (pc' := 168) (lv' := [(10, .int (f_w_joined (f_w_joined x5 x1 ((1 : Int32) <<< (x8 &&& 31)) M) x2 ((1 : Int32) <<< (x7 &&& 31)) M)), (9, .int (f_w_joined (f_w_joined x5 x1 ((1 : Int32) <<< (x7 &&& 31)) M) x2 ((1 : Int32) <<< (x8 &&& 31)) M)), (0, .ref 5), (1, .int x1), (2, .int x2), (3, .int x3), (4, .int x4), (5, .int x5), (6, .int x6), (7, .int x7), (8, .int x8)]) (st' := [.int (((8 : Int32) * x7) + x8)]) (h' := hp M) rfl ?_
            obtain rfl := Option.some.inj h
            exact am_Y.ret rfl
          · replace h := (if_neg hc).symm.trans h
            refine am_Y.run (k := 3) (pc' := 80) (lv' := [(8, .int (x8 + (1 : Int32))), (6, .int (x6 + (1 : Int32))), (10, .int (f_w_joined (f_w_joined x5 x1 ((1 : Int32) <<< (x8 &&& 31)) M) x2 ((1 : Int32) <<< (x7 &&& 31)) M)), (9, .int (f_w_joined (f_w_joined x5 x1 ((1 : Int32) <<< (x7 &&& 31)) M) x2 ((1 : Int32) <<< (x8 &&& 31)) M)), (0, .ref 5), (1, .int x1), (2, .int x2), (3, .int x3), (4, .int x4), (5, .int x5), (7, .int x7)]) (st' := []) (h' := hp M) rfl ?_
            refine am_Y.weak (lv2 := [(0, .ref 5), (1, .int x1), (2, .int x2), (3, .int x3), (4, .int x4), (5, .int x5), (6, .int (x6 + (1 : Int32))), (7, .int x7), (8, .int (x8 + (1 : Int32)))]) rfl rfl ⟨rfl, rfl, rfl, rfl, rfl, rfl, rfl, rfl, rfl, trivial⟩ ?_
            exact ih x1 x2 x3 x4 x5 (x6 + (1 : Int32)) x7 (x8 + (1 : Int32)) M _ h
        · replace h := (if_neg hc).symm.trans h
          refine am_Y.run (k := 2) (pc' := 80) (lv' := [(8, .int (x8 + (1 : Int32))), (10, .int (f_w_joined (f_w_joined x5 x1 ((1 : Int32) <<< (x8 &&& 31)) M) x2 ((1 : Int32) <<< (x7 &&& 31)) M)), (9, .int (f_w_joined (f_w_joined x5 x1 ((1 : Int32) <<< (x7 &&& 31)) M) x2 ((1 : Int32) <<< (x8 &&& 31)) M)), (0, .ref 5), (1, .int x1), (2, .int x2), (3, .int x3), (4, .int x4), (5, .int x5), (6, .int x6), (7, .int x7)]) (st' := []) (h' := hp M) rfl ?_
          refine am_Y.weak (lv2 := [(0, .ref 5), (1, .int x1), (2, .int x2), (3, .int x3), (4, .int x4), (5, .int x5), (6, .int x6), (7, .int x7), (8, .int (x8 + (1 : Int32)))]) rfl rfl ⟨rfl, rfl, rfl, rfl, rfl, rfl, rfl, rfl, rfl, trivial⟩ ?_
          exact ih x1 x2 x3 x4 x5 x6 x7 (x8 + (1 : Int32)) M _ h
set_option maxRecDepth 100000 in
theorem t_w_twoWhispered_59 {S : Nat × (Nat → Int32)} (N : Nat) : ∀ (n : Nat) (x1 : Int32) (x2 : Int32) (x3 : Int32) (x4 : Int32) (x5 : Int32) (x6 : Int32) (x7 : Int32) (M : Mem) (r : Int32), f_w_twoWhispered_59 N n x1 x2 x3 x4 x5 x6 x7 M = some r → am_Y S 2 0 0 am_M52 59 [(0, .ref 5), (1, .int x1), (2, .int x2), (3, .int x3), (4, .int x4), (5, .int x5), (6, .int x6), (7, .int x7)] [] (hp M) (some (.int r)) (hp M) := by
  intro n
  induction n with
  | zero =>
    intro x1 x2 x3 x4 x5 x6 x7 M r h
    cases h
  | succ n ih =>
    intro x1 x2 x3 x4 x5 x6 x7 M r h
    rw [f_w_twoWhispered_59] at h
    refine am_Y.run (k := 5) (pc' := 71) (lv' := [(0, .ref 5), (1, .int x1), (2, .int x2), (3, .int x3), (4, .int x4), (5, .int x5), (6, .int x6), (7, .int x7)]) (st' := [.int (gi M 7 3), .int x7]) (h' := hp M) rfl ?_
    refine am_Y.br (c := (gi M 7 3) ≤ x7) _ (t := 184) (u := 74) (lv' := [(0, .ref 5), (1, .int x1), (2, .int x2), (3, .int x3), (4, .int x4), (5, .int x5), (6, .int x6), (7, .int x7)]) (st' := []) (h' := hp M) rfl (fun hc => ?_) (fun hc => ?_)
    · replace h := (if_pos hc).symm.trans h
      refine am_Y.run (k := 2) (pc' := 187) (lv' := [(0, .ref 5), (1, .int x1), (2, .int x2), (3, .int x3), (4, .int x4), (5, .int x5), (6, .int x6), (7, .int x7)]) (st' := [.int (-1 : Int32), .int x4]) (h' := hp M) rfl ?_
      refine am_Y.br (c := x4 = (-1 : Int32)) _ (t := 190) (u := 195) (lv' := [(0, .ref 5), (1, .int x1), (2, .int x2), (3, .int x3), (4, .int x4), (5, .int x5), (6, .int x6), (7, .int x7)]) (st' := []) (h' := hp M) rfl (fun hc => ?_) (fun hc => ?_)
      · replace h := (if_pos hc).symm.trans h
        refine am_Y.run (k := 2) (pc' := 196) (lv' := [(0, .ref 5), (1, .int x1), (2, .int x2), (3, .int x3), (4, .int x4), (5, .int x5), (6, .int x6), (7, .int x7)]) (st' := [.int x6]) (h' := hp M) rfl ?_
        obtain rfl := Option.some.inj h
        exact am_Y.ret rfl
      · replace h := (if_neg hc).symm.trans h
        refine am_Y.run (k := 1) (pc' := 196) (lv' := [(0, .ref 5), (1, .int x1), (2, .int x2), (3, .int x3), (4, .int x4), (5, .int x5), (6, .int x6), (7, .int x7)]) (st' := [.int (-1 : Int32)]) (h' := hp M) rfl ?_
        obtain rfl := Option.some.inj h
        exact am_Y.ret rfl
    · replace h := (if_neg hc).symm.trans h
      refine am_Y.run (k := 4) (pc' := 80) (lv' := [(8, .int (x7 + (1 : Int32))), (0, .ref 5), (1, .int x1), (2, .int x2), (3, .int x3), (4, .int x4), (5, .int x5), (6, .int x6), (7, .int x7)]) (st' := []) (h' := hp M) rfl ?_
      refine am_Y.weak (lv2 := [(0, .ref 5), (1, .int x1), (2, .int x2), (3, .int x3), (4, .int x4), (5, .int x5), (6, .int x6), (7, .int x7), (8, .int (x7 + (1 : Int32)))]) rfl rfl ⟨rfl, rfl, rfl, rfl, rfl, rfl, rfl, rfl, rfl, trivial⟩ ?_
      exact t_w_twoWhispered_80 N _ ih N x1 x2 x3 x4 x5 x6 x7 (x7 + (1 : Int32)) M _ h
set_option maxRecDepth 100000 in
theorem t_w_twoWhispered {S : Nat × (Nat → Int32)} (N : Nat) (x1 : Int32) (x2 : Int32) (x3 : Int32) (x4 : Int32) (M : Mem) (r : Int32) (h : f_w_twoWhispered N x1 x2 x3 x4 M = some r) : am_Y S 2 0 0 am_M52 0 [(0, .ref 5), (1, .int x1), (2, .int x2), (3, .int x3), (4, .int x4)] [] (hp M) (some (.int r)) (hp M) := by
  rw [f_w_twoWhispered] at h
  refine am_Y.run (k := 3) (pc' := 5) (lv' := [(0, .ref 5), (1, .int x1), (2, .int x2), (3, .int x3), (4, .int x4)]) (st' := [.int (999 : Int32), .int (0 : Int32), .int x1]) (h' := hp M) rfl ?_
  refine am_Y.call0 (M' := am_M102) (as := [.int x1, .int (0 : Int32), .int (999 : Int32)]) (rest := []) (d' := 0) rfl (by omega) rfl rfl (t_w_within x1 (0 : Int32) (999 : Int32) M _ rfl) ?_
  refine am_Y.br (c := (f_w_within x1 (0 : Int32) (999 : Int32) M) = (0 : Int32)) _ (t := 36) (u := 11) (lv' := [(0, .ref 5), (1, .int x1), (2, .int x2), (3, .int x3), (4, .int x4)]) (st' := []) (h' := hp M) rfl (fun hc => ?_) (fun hc => ?_)
  · replace h := (if_pos hc).symm.trans h
    refine am_Y.run (k := 1) (pc' := 37) (lv' := [(0, .ref 5), (1, .int x1), (2, .int x2), (3, .int x3), (4, .int x4)]) (st' := [.int (-1 : Int32)]) (h' := hp M) rfl ?_
    obtain rfl := Option.some.inj h
    exact am_Y.ret rfl
  · replace h := (if_neg hc).symm.trans h
    refine am_Y.run (k := 3) (pc' := 16) (lv' := [(0, .ref 5), (1, .int x1), (2, .int x2), (3, .int x3), (4, .int x4)]) (st' := [.int (999 : Int32), .int (0 : Int32), .int x2]) (h' := hp M) rfl ?_
    refine am_Y.call0 (M' := am_M102) (as := [.int x2, .int (0 : Int32), .int (999 : Int32)]) (rest := []) (d' := 0) rfl (by omega) rfl rfl (t_w_within x2 (0 : Int32) (999 : Int32) M _ rfl) ?_
    refine am_Y.br (c := (f_w_within x2 (0 : Int32) (999 : Int32) M) = (0 : Int32)) _ (t := 36) (u := 22) (lv' := [(0, .ref 5), (1, .int x1), (2, .int x2), (3, .int x3), (4, .int x4)]) (st' := []) (h' := hp M) rfl (fun hc => ?_) (fun hc => ?_)
    · replace h := (if_pos hc).symm.trans h
      refine am_Y.run (k := 1) (pc' := 37) (lv' := [(0, .ref 5), (1, .int x1), (2, .int x2), (3, .int x3), (4, .int x4)]) (st' := [.int (-1 : Int32)]) (h' := hp M) rfl ?_
      obtain rfl := Option.some.inj h
      exact am_Y.ret rfl
    · replace h := (if_neg hc).symm.trans h
      refine am_Y.run (k := 4) (pc' := 30) (lv' := [(0, .ref 5), (1, .int x1), (2, .int x2), (3, .int x3), (4, .int x4)]) (st' := [.int x3, .ref 7]) (h' := hp M) rfl ?_
      refine am_Y.call0 (M' := am_M182) (as := [.ref 7, .int x3]) (rest := []) (d' := 1) rfl (by omega) rfl rfl (t_g_knowsAll x3 M _ rfl) ?_
      refine am_Y.br (c := (f_g_knowsAll x3 M) = (0 : Int32)) _ (t := 36) (u := 38) (lv' := [(0, .ref 5), (1, .int x1), (2, .int x2), (3, .int x3), (4, .int x4)]) (st' := []) (h' := hp M) rfl (fun hc => ?_) (fun hc => ?_)
      · replace h := (if_pos hc).symm.trans h
        refine am_Y.run (k := 1) (pc' := 37) (lv' := [(0, .ref 5), (1, .int x1), (2, .int x2), (3, .int x3), (4, .int x4)]) (st' := [.int (-1 : Int32)]) (h' := hp M) rfl ?_
        obtain rfl := Option.some.inj h
        exact am_Y.ret rfl
      · replace h := (if_neg hc).symm.trans h
        refine am_Y.run (k := 4) (pc' := 48) (lv' := [(0, .ref 5), (1, .int x1), (2, .int x2), (3, .int x3), (4, .int x4)]) (st' := [.int (1000000 : Int32), .ref 11]) (h' := hp M) rfl ?_
        obtain ⟨q1, e_q1, h⟩ := Option.bind_eq_some_iff.mp h
        refine am_Y.call0 (M' := am_M188) (as := [.ref 11, .int (1000000 : Int32)]) (rest := []) (d' := 1) rfl (by omega) rfl rfl (t_e_standing N (1000000 : Int32) M q1 e_q1) ?_
        refine am_Y.run (k := 5) (pc' := 59) (lv' := [(7, .int (0 : Int32)), (6, .int (0 : Int32)), (5, .int q1), (0, .ref 5), (1, .int x1), (2, .int x2), (3, .int x3), (4, .int x4)]) (st' := []) (h' := hp M) rfl ?_
        refine am_Y.weak (lv2 := [(0, .ref 5), (1, .int x1), (2, .int x2), (3, .int x3), (4, .int x4), (5, .int q1), (6, .int (0 : Int32)), (7, .int (0 : Int32))]) rfl rfl ⟨rfl, rfl, rfl, rfl, rfl, rfl, rfl, rfl, trivial⟩ ?_
        exact t_w_twoWhispered_59 N N x1 x2 x3 x4 q1 (0 : Int32) (0 : Int32) M _ h
set_option maxRecDepth 100000 in
theorem t_m_holdWithTwo {S : Nat × (Nat → Int32)} (N : Nat) (x1 : Int32) (x2 : Int32) (x3 : Int32) (x4 : Int32) (M : Mem) (r : Int32) (M' : Mem) (h : f_m_holdWithTwo N x1 x2 x3 x4 M = some (r, M')) : am_Y S 3 0 0 am_M192 0 [(0, .ref 129), (1, .int x1), (2, .int x2), (3, .int x3), (4, .int x4)] [] (hp M) (some (.int r)) (hp M') := by
  rw [f_m_holdWithTwo] at h
  refine am_Y.run (k := 1) (pc' := 1) (lv' := [(0, .ref 129), (1, .int x1), (2, .int x2), (3, .int x3), (4, .int x4)]) (st' := [.ref 129]) (h' := hp M) rfl ?_
  obtain ⟨q1, e_q1, h⟩ := Option.bind_eq_some_iff.mp h
  refine am_Y.call0 (M' := am_M149) (as := [.ref 129]) (rest := []) (d' := 2) rfl (by omega) rfl rfl (t_m_wouldHold N M q1.1 q1.2 e_q1) ?_
  refine am_Y.br (c := (0 : Int32) ≤ q1.1) _ (t := 9) (u := 7) (lv' := [(0, .ref 129), (1, .int x1), (2, .int x2), (3, .int x3), (4, .int x4)]) (st' := []) (h' := hp q1.2) rfl (fun hc => ?_) (fun hc => ?_)
  · replace h := (if_pos hc).symm.trans h
    refine am_Y.run (k := 3) (pc' := 12) (lv' := [(0, .ref 129), (1, .int x1), (2, .int x2), (3, .int x3), (4, .int x4)]) (st' := [.int x2, .int x1, .ref 129]) (h' := hp q1.2) rfl ?_
    obtain ⟨q2, e_q2, h⟩ := Option.bind_eq_some_iff.mp h
    refine am_Y.call0 (M' := am_M205) (as := [.ref 129, .int x1, .int x2]) (rest := []) (d' := 0) rfl (by omega) rfl rfl (t_m_consider x1 x2 q1.2 q2 e_q2) ?_
    refine am_Y.run (k := 3) (pc' := 19) (lv' := [(0, .ref 129), (1, .int x1), (2, .int x2), (3, .int x3), (4, .int x4)]) (st' := [.int x4, .int x3, .ref 129]) (h' := hp q2) rfl ?_
    obtain ⟨q3, e_q3, h⟩ := Option.bind_eq_some_iff.mp h
    refine am_Y.call0 (M' := am_M205) (as := [.ref 129, .int x3, .int x4]) (rest := []) (d' := 0) rfl (by omega) rfl rfl (t_m_consider x3 x4 q2 q3 e_q3) ?_
    refine am_Y.run (k := 2) (pc' := 26) (lv' := [(0, .ref 129), (1, .int x1), (2, .int x2), (3, .int x3), (4, .int x4)]) (st' := [.int (gi q3 129 29)]) (h' := hp q3) rfl ?_
    obtain ⟨rfl, rfl⟩ := Prod.mk.inj (Option.some.inj h)
    exact am_Y.ret rfl
  · replace h := (if_neg hc).symm.trans h
    refine am_Y.run (k := 1) (pc' := 8) (lv' := [(0, .ref 129), (1, .int x1), (2, .int x2), (3, .int x3), (4, .int x4)]) (st' := [.int (0 : Int32)]) (h' := hp q1.2) rfl ?_
    obtain ⟨rfl, rfl⟩ := Prod.mk.inj (Option.some.inj h)
    exact am_Y.ret rfl
set_option maxRecDepth 100000 in
theorem t_m_twoWhispered_61 {S : Nat × (Nat → Int32)} (N : Nat) (K44 : Int32 → Int32 → Int32 → Int32 → Int32 → Int32 → Mem → Option (Int32 × Mem)) (hK44 : ∀ (x1 : Int32) (x2 : Int32) (x3 : Int32) (x4 : Int32) (x5 : Int32) (x6 : Int32) (M : Mem) (r : Int32) (M' : Mem), K44 x1 x2 x3 x4 x5 x6 M = some (r, M') → am_Y S 4 0 0 am_M53 44 [(0, .ref 129), (1, .int x1), (2, .int x2), (3, .int x3), (4, .int x4), (5, .int x5), (6, .int x6)] [] (hp M) (some (.int r)) (hp M')) : ∀ (n : Nat) (x1 : Int32) (x2 : Int32) (x3 : Int32) (x4 : Int32) (x5 : Int32) (x6 : Int32) (x7 : Int32) (M : Mem) (r : Int32) (M' : Mem), f_m_twoWhispered_61 N K44 n x1 x2 x3 x4 x5 x6 x7 M = some (r, M') → am_Y S 4 0 0 am_M53 61 [(0, .ref 129), (1, .int x1), (2, .int x2), (3, .int x3), (4, .int x4), (5, .int x5), (6, .int x6), (7, .int x7)] [] (hp M) (some (.int r)) (hp M') := by
  intro n
  induction n with
  | zero =>
    intro x1 x2 x3 x4 x5 x6 x7 M r M' h
    cases h
  | succ n ih =>
    intro x1 x2 x3 x4 x5 x6 x7 M r M' h
    rw [f_m_twoWhispered_61] at h
    refine am_Y.run (k := 5) (pc' := 69) (lv' := [(0, .ref 129), (1, .int x1), (2, .int x2), (3, .int x3), (4, .int x4), (5, .int x5), (6, .int x6), (7, .int x7)]) (st' := [.int (gi M 130 0), .int x7]) (h' := hp M) rfl ?_
    refine am_Y.br (c := (gi M 130 0) ≤ x7) _ (t := 128) (u := 72) (lv' := [(0, .ref 129), (1, .int x1), (2, .int x2), (3, .int x3), (4, .int x4), (5, .int x5), (6, .int x6), (7, .int x7)]) (st' := []) (h' := hp M) rfl (fun hc => ?_) (fun hc => ?_)
    · replace h := (if_pos hc).symm.trans h
      refine am_Y.run (k := 2) (pc' := 44) (lv' := [(6, .int (x6 + (1 : Int32))), (0, .ref 129), (1, .int x1), (2, .int x2), (3, .int x3), (4, .int x4), (5, .int x5), (7, .int x7)]) (st' := []) (h' := hp M) rfl ?_
      refine am_Y.weak (lv2 := [(0, .ref 129), (1, .int x1), (2, .int x2), (3, .int x3), (4, .int x4), (5, .int x5), (6, .int (x6 + (1 : Int32)))]) rfl rfl ⟨rfl, rfl, rfl, rfl, rfl, rfl, rfl, trivial⟩ ?_
      exact hK44 x1 x2 x3 x4 x5 (x6 + (1 : Int32)) M _ _ h
    · replace h := (if_neg hc).symm.trans h
      refine am_Y.run (k := 5) (pc' := 79) (lv' := [(0, .ref 129), (1, .int x1), (2, .int x2), (3, .int x3), (4, .int x4), (5, .int x5), (6, .int x6), (7, .int x7)]) (st' := [.int x2, .int x7, .int x1, .int x6, .ref 129]) (h' := hp M) rfl ?_
      obtain ⟨q1, e_q1, h⟩ := Option.bind_eq_some_iff.mp h
      refine am_Y.call0 (M' := am_M192) (as := [.ref 129, .int x6, .int x1, .int x7, .int x2]) (rest := []) (d' := 3) rfl (by omega) rfl rfl (t_m_holdWithTwo N x6 x1 x7 x2 M q1.1 q1.2 e_q1) ?_
      refine am_Y.run (k := 1) (pc' := 83) (lv' := [(0, .ref 129), (1, .int x1), (2, .int x2), (3, .int x3), (4, .int x4), (5, .int x5), (6, .int x6), (7, .int x7)]) (st' := [.int x3, .int q1.1]) (h' := hp q1.2) rfl ?_
      refine am_Y.br (c := q1.1 = x3) _ (t := 103) (u := 86) (lv' := [(0, .ref 129), (1, .int x1), (2, .int x2), (3, .int x3), (4, .int x4), (5, .int x5), (6, .int x6), (7, .int x7)]) (st' := []) (h' := hp q1.2) rfl (fun hc => ?_) (fun hc => ?_)
      · replace h := (if_pos hc).symm.trans h
        refine am_Y.run (k := 2) (pc' := 107) (lv' := [(0, .ref 129), (1, .int x1), (2, .int x2), (3, .int x3), (4, .int x4), (5, .int x5), (6, .int x6), (7, .int x7)]) (st' := [.int x4, .int x5]) (h' := hp q1.2) rfl ?_
        refine am_Y.br (c := x5 = x4) _ (t := 110) (u := 119) (lv' := [(0, .ref 129), (1, .int x1), (2, .int x2), (3, .int x3), (4, .int x4), (5, .int x5), (6, .int x6), (7, .int x7)]) (st' := []) (h' := hp q1.2) rfl (fun hc => ?_) (fun hc => ?_)
        · replace h := (if_pos hc).symm.trans h
          refine am_Y.run (k := 5) (pc' := 118) (lv' := [(0, .ref 129), (1, .int x1), (2, .int x2), (3, .int x3), (4, .int x4), (5, .int x5), (6, .int x6), (7, .int x7)]) (st' := [.int (((8 : Int32) * x6) + x7)]) (h' := hp q1.2) rfl ?_
          obtain ⟨rfl, rfl⟩ := Prod.mk.inj (Option.some.inj h)
          exact am_Y.ret rfl
        · replace h := (if_neg hc).symm.trans h
          refine am_Y.run (k := 3) (pc' := 61) (lv' := [(7, .int (x7 + (1 : Int32))), (5, .int (x5 + (1 : Int32))), (0, .ref 129), (1, .int x1), (2, .int x2), (3, .int x3), (4, .int x4), (6, .int x6)]) (st' := []) (h' := hp q1.2) rfl ?_
          refine am_Y.weak (lv2 := [(0, .ref 129), (1, .int x1), (2, .int x2), (3, .int x3), (4, .int x4), (5, .int (x5 + (1 : Int32))), (6, .int x6), (7, .int (x7 + (1 : Int32)))]) rfl rfl ⟨rfl, rfl, rfl, rfl, rfl, rfl, rfl, rfl, trivial⟩ ?_
          exact ih x1 x2 x3 x4 (x5 + (1 : Int32)) x6 (x7 + (1 : Int32)) q1.2 _ _ h
      · replace h := (if_neg hc).symm.trans h
        refine am_Y.run (k := 5) (pc' := 93) (lv' := [(0, .ref 129), (1, .int x1), (2, .int x2), (3, .int x3), (4, .int x4), (5, .int x5), (6, .int x6), (7, .int x7)]) (st' := [.int x2, .int x6, .int x1, .int x7, .ref 129]) (h' := hp q1.2) rfl ?_
        obtain ⟨q2, e_q2, h⟩ := Option.bind_eq_some_iff.mp h
        refine am_Y.call0 (M' := am_M192) (as := [.ref 129, .int x7, .int x1, .int x6, .int x2]) (rest := []) (d' := 3) rfl (by omega) rfl rfl (t_m_holdWithTwo N x7 x1 x6 x2 q1.2 q2.1 q2.2 e_q2) ?_
        refine am_Y.run (k := 1) (pc' := 97) (lv' := [(0, .ref 129), (1, .int x1), (2, .int x2), (3, .int x3), (4, .int x4), (5, .int x5), (6, .int x6), (7, .int x7)]) (st' := [.int x3, .int q2.1]) (h' := hp q2.2) rfl ?_
        refine am_Y.br (c := q2.1 = x3) _ (t := 103) (u := 100) (lv' := [(0, .ref 129), (1, .int x1), (2, .int x2), (3, .int x3), (4, .int x4), (5, .int x5), (6, .int x6), (7, .int x7)]) (st' := []) (h' := hp q2.2) rfl (fun hc => ?_) (fun hc => ?_)
        · replace h := (if_pos hc).symm.trans h
          refine am_Y.run (k := 2) (pc' := 107) (lv' := [(0, .ref 129), (1, .int x1), (2, .int x2), (3, .int x3), (4, .int x4), (5, .int x5), (6, .int x6), (7, .int x7)]) (st' := [.int x4, .int x5]) (h' := hp q2.2) rfl ?_
          refine am_Y.br (c := x5 = x4) _ (t := 110) (u := 119) (lv' := [(0, .ref 129), (1, .int x1), (2, .int x2), (3, .int x3), (4, .int x4), (5, .int x5), (6, .int x6), (7, .int x7)]) (st' := []) (h' := hp q2.2) rfl (fun hc => ?_) (fun hc => ?_)
          · replace h := (if_pos hc).symm.trans h
            refine am_Y.run (k := 5) (pc' := 118) (lv' := [(0, .ref 129), (1, .int x1), (2, .int x2), (3, .int x3), (4, .int x4), (5, .int x5), (6, .int x6), (7, .int x7)]) (st' := [.int (((8 : Int32) * x6) + x7)]) (h' := hp q2.2) rfl ?_
            obtain ⟨rfl, rfl⟩ := Prod.mk.inj (Option.some.inj h)
            exact am_Y.ret rfl
          · replace h := (if_neg hc).symm.trans h
            refine am_Y.run (k := 3) (pc' := 61) (lv' := [(7, .int (x7 + (1 : Int32))), (5, .int (x5 + (1 : Int32))), (0, .ref 129), (1, .int x1), (2, .int x2), (3, .int x3), (4, .int x4), (6, .int x6)]) (st' := []) (h' := hp q2.2) rfl ?_
            refine am_Y.weak (lv2 := [(0, .ref 129), (1, .int x1), (2, .int x2), (3, .int x3), (4, .int x4), (5, .int (x5 + (1 : Int32))), (6, .int x6), (7, .int (x7 + (1 : Int32)))]) rfl rfl ⟨rfl, rfl, rfl, rfl, rfl, rfl, rfl, rfl, trivial⟩ ?_
            exact ih x1 x2 x3 x4 (x5 + (1 : Int32)) x6 (x7 + (1 : Int32)) q2.2 _ _ h
        · replace h := (if_neg hc).symm.trans h
          refine am_Y.run (k := 3) (pc' := 61) (lv' := [(7, .int (x7 + (1 : Int32))), (0, .ref 129), (1, .int x1), (2, .int x2), (3, .int x3), (4, .int x4), (5, .int x5), (6, .int x6)]) (st' := []) (h' := hp q2.2) rfl ?_
          refine am_Y.weak (lv2 := [(0, .ref 129), (1, .int x1), (2, .int x2), (3, .int x3), (4, .int x4), (5, .int x5), (6, .int x6), (7, .int (x7 + (1 : Int32)))]) rfl rfl ⟨rfl, rfl, rfl, rfl, rfl, rfl, rfl, rfl, trivial⟩ ?_
          exact ih x1 x2 x3 x4 x5 x6 (x7 + (1 : Int32)) q2.2 _ _ h
set_option maxRecDepth 100000 in
theorem t_m_twoWhispered_44 {S : Nat × (Nat → Int32)} (N : Nat) : ∀ (n : Nat) (x1 : Int32) (x2 : Int32) (x3 : Int32) (x4 : Int32) (x5 : Int32) (x6 : Int32) (M : Mem) (r : Int32) (M' : Mem), f_m_twoWhispered_44 N n x1 x2 x3 x4 x5 x6 M = some (r, M') → am_Y S 4 0 0 am_M53 44 [(0, .ref 129), (1, .int x1), (2, .int x2), (3, .int x3), (4, .int x4), (5, .int x5), (6, .int x6)] [] (hp M) (some (.int r)) (hp M') := by
  intro n
  induction n with
  | zero =>
    intro x1 x2 x3 x4 x5 x6 M r M' h
    cases h
  | succ n ih =>
    intro x1 x2 x3 x4 x5 x6 M r M' h
    rw [f_m_twoWhispered_44] at h
    refine am_Y.run (k := 5) (pc' := 52) (lv' := [(0, .ref 129), (1, .int x1), (2, .int x2), (3, .int x3), (4, .int x4), (5, .int x5), (6, .int x6)]) (st' := [.int (gi M 130 0), .int x6]) (h' := hp M) rfl ?_
    refine am_Y.br (c := (gi M 130 0) ≤ x6) _ (t := 134) (u := 55) (lv' := [(0, .ref 129), (1, .int x1), (2, .int x2), (3, .int x3), (4, .int x4), (5, .int x5), (6, .int x6)]) (st' := []) (h' := hp M) rfl (fun hc => ?_) (fun hc => ?_)
    · replace h := (if_pos hc).symm.trans h
      refine am_Y.run (k := 2) (pc' := 137) (lv' := [(0, .ref 129), (1, .int x1), (2, .int x2), (3, .int x3), (4, .int x4), (5, .int x5), (6, .int x6)]) (st' := [.int (-1 : Int32), .int x4]) (h' := hp M) rfl ?_
      refine am_Y.br (c := x4 = (-1 : Int32)) _ (t := 140) (u := 145) (lv' := [(0, .ref 129), (1, .int x1), (2, .int x2), (3, .int x3), (4, .int x4), (5, .int x5), (6, .int x6)]) (st' := []) (h' := hp M) rfl (fun hc => ?_) (fun hc => ?_)
      · replace h := (if_pos hc).symm.trans h
        refine am_Y.run (k := 2) (pc' := 146) (lv' := [(0, .ref 129), (1, .int x1), (2, .int x2), (3, .int x3), (4, .int x4), (5, .int x5), (6, .int x6)]) (st' := [.int x5]) (h' := hp M) rfl ?_
        obtain ⟨rfl, rfl⟩ := Prod.mk.inj (Option.some.inj h)
        exact am_Y.ret rfl
      · replace h := (if_neg hc).symm.trans h
        refine am_Y.run (k := 1) (pc' := 146) (lv' := [(0, .ref 129), (1, .int x1), (2, .int x2), (3, .int x3), (4, .int x4), (5, .int x5), (6, .int x6)]) (st' := [.int (-1 : Int32)]) (h' := hp M) rfl ?_
        obtain ⟨rfl, rfl⟩ := Prod.mk.inj (Option.some.inj h)
        exact am_Y.ret rfl
    · replace h := (if_neg hc).symm.trans h
      refine am_Y.run (k := 4) (pc' := 61) (lv' := [(7, .int (x6 + (1 : Int32))), (0, .ref 129), (1, .int x1), (2, .int x2), (3, .int x3), (4, .int x4), (5, .int x5), (6, .int x6)]) (st' := []) (h' := hp M) rfl ?_
      refine am_Y.weak (lv2 := [(0, .ref 129), (1, .int x1), (2, .int x2), (3, .int x3), (4, .int x4), (5, .int x5), (6, .int x6), (7, .int (x6 + (1 : Int32)))]) rfl rfl ⟨rfl, rfl, rfl, rfl, rfl, rfl, rfl, rfl, trivial⟩ ?_
      exact t_m_twoWhispered_61 N _ ih N x1 x2 x3 x4 x5 x6 (x6 + (1 : Int32)) M _ _ h
set_option maxRecDepth 100000 in
theorem t_m_twoWhispered {S : Nat × (Nat → Int32)} (N : Nat) (x1 : Int32) (x2 : Int32) (x3 : Int32) (x4 : Int32) (M : Mem) (r : Int32) (M' : Mem) (h : f_m_twoWhispered N x1 x2 x3 x4 M = some (r, M')) : am_Y S 4 0 0 am_M53 0 [(0, .ref 129), (1, .int x1), (2, .int x2), (3, .int x3), (4, .int x4)] [] (hp M) (some (.int r)) (hp M') := by
  rw [f_m_twoWhispered] at h
  refine am_Y.run (k := 3) (pc' := 5) (lv' := [(0, .ref 129), (1, .int x1), (2, .int x2), (3, .int x3), (4, .int x4)]) (st' := [.int (999 : Int32), .int (0 : Int32), .int x1]) (h' := hp M) rfl ?_
  refine am_Y.call0 (M' := am_M104) (as := [.int x1, .int (0 : Int32), .int (999 : Int32)]) (rest := []) (d' := 0) rfl (by omega) rfl rfl (t_m_isIn x1 (0 : Int32) (999 : Int32) M _ rfl) ?_
  refine am_Y.br (c := (f_m_isIn x1 (0 : Int32) (999 : Int32) M) = (0 : Int32)) _ (t := 36) (u := 11) (lv' := [(0, .ref 129), (1, .int x1), (2, .int x2), (3, .int x3), (4, .int x4)]) (st' := []) (h' := hp M) rfl (fun hc => ?_) (fun hc => ?_)
  · replace h := (if_pos hc).symm.trans h
    refine am_Y.run (k := 1) (pc' := 37) (lv' := [(0, .ref 129), (1, .int x1), (2, .int x2), (3, .int x3), (4, .int x4)]) (st' := [.int (-1 : Int32)]) (h' := hp M) rfl ?_
    obtain ⟨rfl, rfl⟩ := Prod.mk.inj (Option.some.inj h)
    exact am_Y.ret rfl
  · replace h := (if_neg hc).symm.trans h
    refine am_Y.run (k := 3) (pc' := 16) (lv' := [(0, .ref 129), (1, .int x1), (2, .int x2), (3, .int x3), (4, .int x4)]) (st' := [.int (999 : Int32), .int (0 : Int32), .int x2]) (h' := hp M) rfl ?_
    refine am_Y.call0 (M' := am_M104) (as := [.int x2, .int (0 : Int32), .int (999 : Int32)]) (rest := []) (d' := 0) rfl (by omega) rfl rfl (t_m_isIn x2 (0 : Int32) (999 : Int32) M _ rfl) ?_
    refine am_Y.br (c := (f_m_isIn x2 (0 : Int32) (999 : Int32) M) = (0 : Int32)) _ (t := 36) (u := 22) (lv' := [(0, .ref 129), (1, .int x1), (2, .int x2), (3, .int x3), (4, .int x4)]) (st' := []) (h' := hp M) rfl (fun hc => ?_) (fun hc => ?_)
    · replace h := (if_pos hc).symm.trans h
      refine am_Y.run (k := 1) (pc' := 37) (lv' := [(0, .ref 129), (1, .int x1), (2, .int x2), (3, .int x3), (4, .int x4)]) (st' := [.int (-1 : Int32)]) (h' := hp M) rfl ?_
      obtain ⟨rfl, rfl⟩ := Prod.mk.inj (Option.some.inj h)
      exact am_Y.ret rfl
    · replace h := (if_neg hc).symm.trans h
      refine am_Y.run (k := 2) (pc' := 24) (lv' := [(0, .ref 129), (1, .int x1), (2, .int x2), (3, .int x3), (4, .int x4)]) (st' := [.int x3, .ref 129]) (h' := hp M) rfl ?_
      refine am_Y.call0 (M' := am_M184) (as := [.ref 129, .int x3]) (rest := []) (d' := 1) rfl (by omega) rfl rfl (t_m_isSet x3 M _ rfl) ?_
      refine am_Y.br (c := (f_m_isSet x3 M) = (0 : Int32)) _ (t := 36) (u := 30) (lv' := [(0, .ref 129), (1, .int x1), (2, .int x2), (3, .int x3), (4, .int x4)]) (st' := []) (h' := hp M) rfl (fun hc => ?_) (fun hc => ?_)
      · replace h := (if_pos hc).symm.trans h
        refine am_Y.run (k := 1) (pc' := 37) (lv' := [(0, .ref 129), (1, .int x1), (2, .int x2), (3, .int x3), (4, .int x4)]) (st' := [.int (-1 : Int32)]) (h' := hp M) rfl ?_
        obtain ⟨rfl, rfl⟩ := Prod.mk.inj (Option.some.inj h)
        exact am_Y.ret rfl
      · replace h := (if_neg hc).symm.trans h
        refine am_Y.run (k := 2) (pc' := 33) (lv' := [(0, .ref 129), (1, .int x1), (2, .int x2), (3, .int x3), (4, .int x4)]) (st' := [.int (-1 : Int32), .int x4]) (h' := hp M) rfl ?_
        refine am_Y.br (c := (-1 : Int32) ≤ x4) _ (t := 38) (u := 36) (lv' := [(0, .ref 129), (1, .int x1), (2, .int x2), (3, .int x3), (4, .int x4)]) (st' := []) (h' := hp M) rfl (fun hc => ?_) (fun hc => ?_)
        · replace h := (if_pos hc).symm.trans h
          refine am_Y.run (k := 4) (pc' := 44) (lv' := [(6, .int (0 : Int32)), (5, .int (0 : Int32)), (0, .ref 129), (1, .int x1), (2, .int x2), (3, .int x3), (4, .int x4)]) (st' := []) (h' := hp M) rfl ?_
          refine am_Y.weak (lv2 := [(0, .ref 129), (1, .int x1), (2, .int x2), (3, .int x3), (4, .int x4), (5, .int (0 : Int32)), (6, .int (0 : Int32))]) rfl rfl ⟨rfl, rfl, rfl, rfl, rfl, rfl, rfl, trivial⟩ ?_
          exact t_m_twoWhispered_44 N N x1 x2 x3 x4 (0 : Int32) (0 : Int32) M _ _ h
        · replace h := (if_neg hc).symm.trans h
          refine am_Y.run (k := 1) (pc' := 37) (lv' := [(0, .ref 129), (1, .int x1), (2, .int x2), (3, .int x3), (4, .int x4)]) (st' := [.int (-1 : Int32)]) (h' := hp M) rfl ?_
          obtain ⟨rfl, rfl⟩ := Prod.mk.inj (Option.some.inj h)
          exact am_Y.ret rfl
set_option maxRecDepth 100000 in
theorem t_w_ifAsked {S : Nat × (Nat → Int32)} (N : Nat) (x1 : Int32) (M : Mem) (r : Int32) (h : f_w_ifAsked N x1 M = some r) : am_Y S 2 0 0 am_M54 0 [(0, .ref 5), (1, .int x1)] [] (hp M) (some (.int r)) (hp M) := by
  rw [f_w_ifAsked] at h
  refine am_Y.run (k := 3) (pc' := 5) (lv' := [(0, .ref 5), (1, .int x1)]) (st' := [.int (999 : Int32), .int (0 : Int32), .int x1]) (h' := hp M) rfl ?_
  refine am_Y.call0 (M' := am_M102) (as := [.int x1, .int (0 : Int32), .int (999 : Int32)]) (rest := []) (d' := 0) rfl (by omega) rfl rfl (t_w_within x1 (0 : Int32) (999 : Int32) M _ rfl) ?_
  refine am_Y.br (c := (f_w_within x1 (0 : Int32) (999 : Int32) M) = (0 : Int32)) _ (t := 11) (u := 13) (lv' := [(0, .ref 5), (1, .int x1)]) (st' := []) (h' := hp M) rfl (fun hc => ?_) (fun hc => ?_)
  · replace h := (if_pos hc).symm.trans h
    refine am_Y.run (k := 1) (pc' := 12) (lv' := [(0, .ref 5), (1, .int x1)]) (st' := [.int (-1 : Int32)]) (h' := hp M) rfl ?_
    obtain rfl := Option.some.inj h
    exact am_Y.ret rfl
  · replace h := (if_neg hc).symm.trans h
    refine am_Y.run (k := 4) (pc' := 23) (lv' := [(0, .ref 5), (1, .int x1)]) (st' := [.int (1000000 : Int32), .ref 11]) (h' := hp M) rfl ?_
    obtain ⟨q1, e_q1, h⟩ := Option.bind_eq_some_iff.mp h
    refine am_Y.call0 (M' := am_M188) (as := [.ref 11, .int (1000000 : Int32)]) (rest := []) (d' := 1) rfl (by omega) rfl rfl (t_e_standing N (1000000 : Int32) M q1 e_q1) ?_
    refine am_Y.run (k := 2) (pc' := 28) (lv' := [(0, .ref 5), (1, .int x1)]) (st' := [.int (0 : Int32), .int x1, .int q1]) (h' := hp M) rfl ?_
    refine am_Y.call0 (M' := am_M189) (as := [.int q1, .int x1, .int (0 : Int32)]) (rest := []) (d' := 0) rfl (by omega) rfl rfl (t_w_joined q1 x1 (0 : Int32) M _ rfl) ?_
    refine am_Y.call0 (M' := am_M190) (as := [.int (f_w_joined q1 x1 (0 : Int32) M)]) (rest := []) (d' := 0) rfl (by omega) rfl rfl (t_w_holders (f_w_joined q1 x1 (0 : Int32) M) M _ rfl) ?_
    obtain rfl := Option.some.inj h
    exact am_Y.ret rfl
set_option maxRecDepth 100000 in
theorem t_m_ifAsked {S : Nat × (Nat → Int32)} (N : Nat) (x1 : Int32) (M : Mem) (r : Int32) (M' : Mem) (h : f_m_ifAsked N x1 M = some (r, M')) : am_Y S 4 0 0 am_M55 0 [(0, .ref 129), (1, .int x1)] [] (hp M) (some (.int r)) (hp M') := by
  rw [f_m_ifAsked] at h
  refine am_Y.run (k := 3) (pc' := 5) (lv' := [(0, .ref 129), (1, .int x1)]) (st' := [.int (999 : Int32), .int (0 : Int32), .int x1]) (h' := hp M) rfl ?_
  refine am_Y.call0 (M' := am_M104) (as := [.int x1, .int (0 : Int32), .int (999 : Int32)]) (rest := []) (d' := 0) rfl (by omega) rfl rfl (t_m_isIn x1 (0 : Int32) (999 : Int32) M _ rfl) ?_
  refine am_Y.br (c := (f_m_isIn x1 (0 : Int32) (999 : Int32) M) = (0 : Int32)) _ (t := 21) (u := 11) (lv' := [(0, .ref 129), (1, .int x1)]) (st' := []) (h' := hp M) rfl (fun hc => ?_) (fun hc => ?_)
  · replace h := (if_pos hc).symm.trans h
    refine am_Y.run (k := 1) (pc' := 22) (lv' := [(0, .ref 129), (1, .int x1)]) (st' := [.int (-1 : Int32)]) (h' := hp M) rfl ?_
    obtain ⟨rfl, rfl⟩ := Prod.mk.inj (Option.some.inj h)
    exact am_Y.ret rfl
  · replace h := (if_neg hc).symm.trans h
    refine am_Y.run (k := 3) (pc' := 15) (lv' := [(0, .ref 129), (1, .int x1)]) (st' := [.int x1, .int (8 : Int32), .ref 129]) (h' := hp M) rfl ?_
    obtain ⟨q1, e_q1, h⟩ := Option.bind_eq_some_iff.mp h
    refine am_Y.call0 (M' := am_M191) (as := [.ref 129, .int (8 : Int32), .int x1]) (rest := []) (d' := 3) rfl (by omega) rfl rfl (t_m_holdWith N (8 : Int32) x1 M q1.1 q1.2 e_q1) ?_
    refine am_Y.run (k := 1) (pc' := 22) (lv' := [(0, .ref 129), (1, .int x1)]) (st' := [.int q1.1]) (h' := hp q1.2) rfl ?_
    obtain ⟨rfl, rfl⟩ := Prod.mk.inj (Option.some.inj h)
    exact am_Y.ret rfl
set_option maxRecDepth 100000 in
theorem t_w_latestMoment {S : Nat × (Nat → Int32)} (x0 : Int32) (M : Mem) (r : Int32) (h : f_w_latestMoment x0 M = r) : am_Y S 0 0 0 am_M193 0 [(0, .int x0)] [] (hp M) (some (.int r)) (hp M) := by
  rw [f_w_latestMoment] at h
  refine am_Y.run (k := 5) (pc' := 6) (lv' := [(0, .int x0)]) (st' := [.int ((x0 >>> (8 : Int32)) - (1 : Int32))]) (h' := hp M) rfl ?_
  subst h
  exact am_Y.ret rfl
set_option maxRecDepth 100000 in
theorem t_w_silence {S : Nat × (Nat → Int32)} (N : Nat) (M : Mem) (r : Int32) (h : f_w_silence N M = some r) : am_Y S 2 0 0 am_M56 0 [(0, .ref 5)] [] (hp M) (some (.int r)) (hp M) := by
  rw [f_w_silence] at h
  refine am_Y.run (k := 3) (pc' := 7) (lv' := [(0, .ref 5)]) (st' := [.ref 11]) (h' := hp M) rfl ?_
  refine am_Y.call0 (M' := am_M121) (as := [.ref 11]) (rest := []) (d' := 0) rfl (by omega) rfl rfl (t_e_moment M _ rfl) ?_
  refine am_Y.run (k := 5) (pc' := 19) (lv' := [(1, .int (f_e_moment M)), (0, .ref 5)]) (st' := [.int (f_e_moment M), .ref 11]) (h' := hp M) rfl ?_
  obtain ⟨q1, e_q1, h⟩ := Option.bind_eq_some_iff.mp h
  refine am_Y.call0 (M' := am_M188) (as := [.ref 11, .int (f_e_moment M)]) (rest := []) (d' := 1) rfl (by omega) rfl rfl (t_e_standing N (f_e_moment M) M q1 e_q1) ?_
  refine am_Y.call0 (M' := am_M193) (as := [.int q1]) (rest := []) (d' := 0) rfl (by omega) rfl rfl (t_w_latestMoment q1 M _ rfl) ?_
  refine am_Y.run (k := 4) (pc' := 29) (lv' := [(2, .int (f_w_latestMoment q1 M)), (1, .int (f_e_moment M)), (0, .ref 5)]) (st' := [.int ((f_e_moment M) - (f_w_latestMoment q1 M))]) (h' := hp M) rfl ?_
  obtain rfl := Option.some.inj h
  exact am_Y.ret rfl
set_option maxRecDepth 100000 in
theorem t_m_silence {S : Nat × (Nat → Int32)} (N : Nat) (M : Mem) (r : Int32) (M' : Mem) (h : f_m_silence N M = some (r, M')) : am_Y S 3 0 0 am_M57 0 [(0, .ref 129)] [] (hp M) (some (.int r)) (hp M') := by
  rw [f_m_silence] at h
  refine am_Y.run (k := 1) (pc' := 1) (lv' := [(0, .ref 129)]) (st' := [.ref 129]) (h' := hp M) rfl ?_
  obtain ⟨q1, e_q1, h⟩ := Option.bind_eq_some_iff.mp h
  refine am_Y.call0 (M' := am_M150) (as := [.ref 129]) (rest := []) (d' := 2) rfl (by omega) rfl rfl (t_m_holdNow N M q1.1 q1.2 e_q1) ?_
  refine am_Y.br (c := (0 : Int32) ≤ q1.1) _ (t := 11) (u := 7) (lv' := [(0, .ref 129)]) (st' := []) (h' := hp q1.2) rfl (fun hc => ?_) (fun hc => ?_)
  · replace h := (if_pos hc).symm.trans h
    refine am_Y.run (k := 7) (pc' := 22) (lv' := [(0, .ref 129)]) (st' := [.int ((gi q1.2 130 2) - (gi q1.2 129 28))]) (h' := hp q1.2) rfl ?_
    obtain ⟨rfl, rfl⟩ := Prod.mk.inj (Option.some.inj h)
    exact am_Y.ret rfl
  · replace h := (if_neg hc).symm.trans h
    refine am_Y.run (k := 2) (pc' := 22) (lv' := [(0, .ref 129)]) (st' := [.int (0 : Int32)]) (h' := hp q1.2) rfl ?_
    obtain ⟨rfl, rfl⟩ := Prod.mk.inj (Option.some.inj h)
    exact am_Y.ret rfl
set_option maxRecDepth 100000 in
theorem t_w_aheadByRank_62 {S : Nat × (Nat → Int32)} (N : Nat) (K16 : Int32 → Int32 → Int32 → Mem → Option Int32) (hK16 : ∀ (x1 : Int32) (x3 : Int32) (x4 : Int32) (M : Mem) (r : Int32), K16 x1 x3 x4 M = some r → am_Y S 3 0 0 am_M194 16 [(0, .ref 5), (1, .int x1), (2, .ref 8), (3, .int x3), (4, .int x4)] [] (hp M) (some (.int r)) (hp M)) (x1 : Int32) (x3 : Int32) (x4 : Int32) (s0 : Int32) (M : Mem) (r : Int32) (h : f_w_aheadByRank_62 N K16 x1 x3 x4 s0 M = some r) : am_Y S 3 0 0 am_M194 62 [(0, .ref 5), (1, .int x1), (2, .ref 8), (3, .int x3), (4, .int x4)] [.int s0] (hp M) (some (.int r)) (hp M) := by
  rw [f_w_aheadByRank_62] at h
  refine am_Y.run (k := 2) (pc' := 66) (lv' := [(5, .int s0), (0, .ref 5), (1, .int x1), (2, .ref 8), (3, .int x3), (4, .int x4)]) (st' := [.int s0]) (h' := hp M) rfl ?_
  refine am_Y.br (c := s0 = (0 : Int32)) _ (t := 84) (u := 69) (lv' := [(5, .int s0), (0, .ref 5), (1, .int x1), (2, .ref 8), (3, .int x3), (4, .int x4)]) (st' := []) (h' := hp M) rfl (fun hc => ?_) (fun hc => ?_)
  · replace h := (if_pos hc).symm.trans h
    refine am_Y.run (k := 2) (pc' := 16) (lv' := [(4, .int (x4 + (1 : Int32))), (5, .int s0), (0, .ref 5), (1, .int x1), (2, .ref 8), (3, .int x3)]) (st' := []) (h' := hp M) rfl ?_
    refine am_Y.weak (lv2 := [(0, .ref 5), (1, .int x1), (2, .ref 8), (3, .int x3), (4, .int (x4 + (1 : Int32)))]) rfl rfl ⟨rfl, rfl, rfl, rfl, rfl, trivial⟩ ?_
    exact hK16 x1 x3 (x4 + (1 : Int32)) M _ h
  · replace h := (if_neg hc).symm.trans h
    refine am_Y.run (k := 3) (pc' := 75) (lv' := [(5, .int s0), (0, .ref 5), (1, .int x1), (2, .ref 8), (3, .int x3), (4, .int x4)]) (st' := [.int x4, .ref 6]) (h' := hp M) rfl ?_
    refine am_Y.call0 (M' := am_M126) (as := [.ref 6, .int x4]) (rest := []) (d' := 2) rfl (by omega) rfl rfl (t_t_isThere x4 M _ rfl) ?_
    refine am_Y.br (c := (f_t_isThere x4 M) = (0 : Int32)) _ (t := 84) (u := 81) (lv' := [(5, .int s0), (0, .ref 5), (1, .int x1), (2, .ref 8), (3, .int x3), (4, .int x4)]) (st' := []) (h' := hp M) rfl (fun hc => ?_) (fun hc => ?_)
    · replace h := (if_pos hc).symm.trans h
      refine am_Y.run (k := 2) (pc' := 16) (lv' := [(4, .int (x4 + (1 : Int32))), (5, .int s0), (0, .ref 5), (1, .int x1), (2, .ref 8), (3, .int x3)]) (st' := []) (h' := hp M) rfl ?_
      refine am_Y.weak (lv2 := [(0, .ref 5), (1, .int x1), (2, .ref 8), (3, .int x3), (4, .int (x4 + (1 : Int32)))]) rfl rfl ⟨rfl, rfl, rfl, rfl, rfl, trivial⟩ ?_
      exact hK16 x1 x3 (x4 + (1 : Int32)) M _ h
    · replace h := (if_neg hc).symm.trans h
      refine am_Y.run (k := 3) (pc' := 16) (lv' := [(4, .int (x4 + (1 : Int32))), (3, .int (x3 + (1 : Int32))), (5, .int s0), (0, .ref 5), (1, .int x1), (2, .ref 8)]) (st' := []) (h' := hp M) rfl ?_
      refine am_Y.weak (lv2 := [(0, .ref 5), (1, .int x1), (2, .ref 8), (3, .int (x3 + (1 : Int32))), (4, .int (x4 + (1 : Int32)))]) rfl rfl ⟨rfl, rfl, rfl, rfl, rfl, trivial⟩ ?_
      exact hK16 x1 (x3 + (1 : Int32)) (x4 + (1 : Int32)) M _ h
set_option maxRecDepth 100000 in
theorem t_w_aheadByRank_16 {S : Nat × (Nat → Int32)} (N : Nat) : ∀ (n : Nat) (x1 : Int32) (x3 : Int32) (x4 : Int32) (M : Mem) (r : Int32), f_w_aheadByRank_16 N n x1 x3 x4 M = some r → am_Y S 3 0 0 am_M194 16 [(0, .ref 5), (1, .int x1), (2, .ref 8), (3, .int x3), (4, .int x4)] [] (hp M) (some (.int r)) (hp M) := by
  intro n
  induction n with
  | zero =>
    intro x1 x3 x4 M r h
    cases h
  | succ n ih =>
    intro x1 x3 x4 M r h
    rw [f_w_aheadByRank_16] at h
    refine am_Y.run (k := 5) (pc' := 28) (lv' := [(0, .ref 5), (1, .int x1), (2, .ref 8), (3, .int x3), (4, .int x4)]) (st' := [.int (gi M 7 3), .int x4]) (h' := hp M) rfl ?_
    refine am_Y.br (c := (gi M 7 3) ≤ x4) _ (t := 90) (u := 31) (lv' := [(0, .ref 5), (1, .int x1), (2, .ref 8), (3, .int x3), (4, .int x4)]) (st' := []) (h' := hp M) rfl (fun hc => ?_) (fun hc => ?_)
    · replace h := (if_pos hc).symm.trans h
      refine am_Y.run (k := 1) (pc' := 91) (lv' := [(0, .ref 5), (1, .int x1), (2, .ref 8), (3, .int x3), (4, .int x4)]) (st' := [.int x3]) (h' := hp M) rfl ?_
      obtain rfl := Option.some.inj h
      exact am_Y.ret rfl
    · replace h := (if_neg hc).symm.trans h
      refine am_Y.run (k := 2) (pc' := 34) (lv' := [(0, .ref 5), (1, .int x1), (2, .ref 8), (3, .int x3), (4, .int x4)]) (st' := [.int x4, .ref 8]) (h' := hp M) rfl ?_
      obtain ⟨g, h⟩ := am_itg h
      refine am_Y.iald (a := 3) (n := 8) rfl rfl g ?_
      refine am_Y.run (k := 2) (pc' := 37) (lv' := [(0, .ref 5), (1, .int x1), (2, .ref 8), (3, .int x3), (4, .int x4)]) (st' := [.int x1, .ref 8, .int (gi M 8 (x4).toNatClampNeg)]) (h' := hp M) rfl ?_
      obtain ⟨g, h⟩ := am_itg h
      refine am_Y.iald (a := 3) (n := 8) rfl rfl g ?_
      refine am_Y.br (c := (gi M 8 (x1).toNatClampNeg) < (gi M 8 (x4).toNatClampNeg)) _ (t := 57) (u := 41) (lv' := [(0, .ref 5), (1, .int x1), (2, .ref 8), (3, .int x3), (4, .int x4)]) (st' := []) (h' := hp M) rfl (fun hc => ?_) (fun hc => ?_)
      · replace h := (if_pos hc).symm.trans h
        refine am_Y.run (k := 2) (pc' := 62) (lv' := [(0, .ref 5), (1, .int x1), (2, .ref 8), (3, .int x3), (4, .int x4)]) (st' := [.int (1 : Int32)]) (h' := hp M) rfl ?_
        refine am_Y.weak (lv2 := [(0, .ref 5), (1, .int x1), (2, .ref 8), (3, .int x3), (4, .int x4)]) rfl rfl ⟨rfl, rfl, rfl, rfl, rfl, trivial⟩ ?_
        exact t_w_aheadByRank_62 N _ ih x1 x3 x4 (1 : Int32) M _ h
      · replace h := (if_neg hc).symm.trans h
        refine am_Y.run (k := 2) (pc' := 44) (lv' := [(0, .ref 5), (1, .int x1), (2, .ref 8), (3, .int x3), (4, .int x4)]) (st' := [.int x4, .ref 8]) (h' := hp M) rfl ?_
        obtain ⟨g, h⟩ := am_itg h
        refine am_Y.iald (a := 3) (n := 8) rfl rfl g ?_
        refine am_Y.run (k := 2) (pc' := 47) (lv' := [(0, .ref 5), (1, .int x1), (2, .ref 8), (3, .int x3), (4, .int x4)]) (st' := [.int x1, .ref 8, .int (gi M 8 (x4).toNatClampNeg)]) (h' := hp M) rfl ?_
        obtain ⟨g, h⟩ := am_itg h
        refine am_Y.iald (a := 3) (n := 8) rfl rfl g ?_
        refine am_Y.br (c := (gi M 8 (x4).toNatClampNeg) = (gi M 8 (x1).toNatClampNeg)) _ (t := 51) (u := 61) (lv' := [(0, .ref 5), (1, .int x1), (2, .ref 8), (3, .int x3), (4, .int x4)]) (st' := []) (h' := hp M) rfl (fun hc => ?_) (fun hc => ?_)
        · replace h := (if_pos hc).symm.trans h
          refine am_Y.run (k := 2) (pc' := 54) (lv' := [(0, .ref 5), (1, .int x1), (2, .ref 8), (3, .int x3), (4, .int x4)]) (st' := [.int x1, .int x4]) (h' := hp M) rfl ?_
          refine am_Y.br (c := x1 ≤ x4) _ (t := 61) (u := 57) (lv' := [(0, .ref 5), (1, .int x1), (2, .ref 8), (3, .int x3), (4, .int x4)]) (st' := []) (h' := hp M) rfl (fun hc => ?_) (fun hc => ?_)
          · replace h := (if_pos hc).symm.trans h
            refine am_Y.run (k := 1) (pc' := 62) (lv' := [(0, .ref 5), (1, .int x1), (2, .ref 8), (3, .int x3), (4, .int x4)]) (st' := [.int (0 : Int32)]) (h' := hp M) rfl ?_
            refine am_Y.weak (lv2 := [(0, .ref 5), (1, .int x1), (2, .ref 8), (3, .int x3), (4, .int x4)]) rfl rfl ⟨rfl, rfl, rfl, rfl, rfl, trivial⟩ ?_
            exact t_w_aheadByRank_62 N _ ih x1 x3 x4 (0 : Int32) M _ h
          · replace h := (if_neg hc).symm.trans h
            refine am_Y.run (k := 2) (pc' := 62) (lv' := [(0, .ref 5), (1, .int x1), (2, .ref 8), (3, .int x3), (4, .int x4)]) (st' := [.int (1 : Int32)]) (h' := hp M) rfl ?_
            refine am_Y.weak (lv2 := [(0, .ref 5), (1, .int x1), (2, .ref 8), (3, .int x3), (4, .int x4)]) rfl rfl ⟨rfl, rfl, rfl, rfl, rfl, trivial⟩ ?_
            exact t_w_aheadByRank_62 N _ ih x1 x3 x4 (1 : Int32) M _ h
        · replace h := (if_neg hc).symm.trans h
          refine am_Y.run (k := 1) (pc' := 62) (lv' := [(0, .ref 5), (1, .int x1), (2, .ref 8), (3, .int x3), (4, .int x4)]) (st' := [.int (0 : Int32)]) (h' := hp M) rfl ?_
          refine am_Y.weak (lv2 := [(0, .ref 5), (1, .int x1), (2, .ref 8), (3, .int x3), (4, .int x4)]) rfl rfl ⟨rfl, rfl, rfl, rfl, rfl, trivial⟩ ?_
          exact t_w_aheadByRank_62 N _ ih x1 x3 x4 (0 : Int32) M _ h
set_option maxRecDepth 100000 in
theorem t_w_aheadByRank {S : Nat × (Nat → Int32)} (N : Nat) (x1 : Int32) (M : Mem) (r : Int32) (h : f_w_aheadByRank N x1 M = some r) : am_Y S 3 0 0 am_M194 0 [(0, .ref 5), (1, .int x1)] [] (hp M) (some (.int r)) (hp M) := by
  rw [f_w_aheadByRank] at h
  refine am_Y.run (k := 9) (pc' := 16) (lv' := [(4, .int (0 : Int32)), (3, .int (0 : Int32)), (2, .ref 8), (0, .ref 5), (1, .int x1)]) (st' := []) (h' := hp M) rfl ?_
  refine am_Y.weak (lv2 := [(0, .ref 5), (1, .int x1), (2, .ref 8), (3, .int (0 : Int32)), (4, .int (0 : Int32))]) rfl rfl ⟨rfl, rfl, rfl, rfl, rfl, trivial⟩ ?_
  exact t_w_aheadByRank_16 N N x1 (0 : Int32) (0 : Int32) M _ h
set_option maxRecDepth 100000 in
theorem t_w_byRank_2 {S : Nat × (Nat → Int32)} (N : Nat) : ∀ (n : Nat) (x1 : Int32) (x2 : Int32) (M : Mem) (r : Int32), f_w_byRank_2 N n x1 x2 M = some r → am_Y S 4 0 0 am_M58 2 [(0, .ref 5), (1, .int x1), (2, .int x2)] [] (hp M) (some (.int r)) (hp M) := by
  intro n
  induction n with
  | zero =>
    intro x1 x2 M r h
    cases h
  | succ n ih =>
    intro x1 x2 M r h
    rw [f_w_byRank_2] at h
    refine am_Y.run (k := 5) (pc' := 13) (lv' := [(0, .ref 5), (1, .int x1), (2, .int x2)]) (st' := [.int (gi M 7 3), .int x2]) (h' := hp M) rfl ?_
    refine am_Y.br (c := (gi M 7 3) ≤ x2) _ (t := 44) (u := 16) (lv' := [(0, .ref 5), (1, .int x1), (2, .int x2)]) (st' := []) (h' := hp M) rfl (fun hc => ?_) (fun hc => ?_)
    · replace h := (if_pos hc).symm.trans h
      refine am_Y.run (k := 1) (pc' := 45) (lv' := [(0, .ref 5), (1, .int x1), (2, .int x2)]) (st' := [.int (-1 : Int32)]) (h' := hp M) rfl ?_
      obtain rfl := Option.some.inj h
      exact am_Y.ret rfl
    · replace h := (if_neg hc).symm.trans h
      refine am_Y.run (k := 3) (pc' := 21) (lv' := [(0, .ref 5), (1, .int x1), (2, .int x2)]) (st' := [.int x2, .ref 6]) (h' := hp M) rfl ?_
      refine am_Y.call0 (M' := am_M126) (as := [.ref 6, .int x2]) (rest := []) (d' := 2) rfl (by omega) rfl rfl (t_t_isThere x2 M _ rfl) ?_
      refine am_Y.br (c := (f_t_isThere x2 M) = (0 : Int32)) _ (t := 38) (u := 27) (lv' := [(0, .ref 5), (1, .int x1), (2, .int x2)]) (st' := []) (h' := hp M) rfl (fun hc => ?_) (fun hc => ?_)
      · replace h := (if_pos hc).symm.trans h
        refine am_Y.run (k := 2) (pc' := 2) (lv' := [(2, .int (x2 + (1 : Int32))), (0, .ref 5), (1, .int x1)]) (st' := []) (h' := hp M) rfl ?_
        refine am_Y.weak (lv2 := [(0, .ref 5), (1, .int x1), (2, .int (x2 + (1 : Int32)))]) rfl rfl ⟨rfl, rfl, rfl, trivial⟩ ?_
        exact ih x1 (x2 + (1 : Int32)) M _ h
      · replace h := (if_neg hc).symm.trans h
        refine am_Y.run (k := 2) (pc' := 29) (lv' := [(0, .ref 5), (1, .int x1), (2, .int x2)]) (st' := [.int x2, .ref 5]) (h' := hp M) rfl ?_
        obtain ⟨q1, e_q1, h⟩ := Option.bind_eq_some_iff.mp h
        refine am_Y.call0 (M' := am_M194) (as := [.ref 5, .int x2]) (rest := []) (d' := 3) rfl (by omega) rfl rfl (t_w_aheadByRank N x2 M q1 e_q1) ?_
        refine am_Y.run (k := 1) (pc' := 33) (lv' := [(0, .ref 5), (1, .int x1), (2, .int x2)]) (st' := [.int x1, .int q1]) (h' := hp M) rfl ?_
        refine am_Y.br (c := q1 = x1) _ (t := 36) (u := 38) (lv' := [(0, .ref 5), (1, .int x1), (2, .int x2)]) (st' := []) (h' := hp M) rfl (fun hc => ?_) (fun hc => ?_)
        · replace h := (if_pos hc).symm.trans h
          refine am_Y.run (k := 1) (pc' := 37) (lv' := [(0, .ref 5), (1, .int x1), (2, .int x2)]) (st' := [.int x2]) (h' := hp M) rfl ?_
          obtain rfl := Option.some.inj h
          exact am_Y.ret rfl
        · replace h := (if_neg hc).symm.trans h
          refine am_Y.run (k := 2) (pc' := 2) (lv' := [(2, .int (x2 + (1 : Int32))), (0, .ref 5), (1, .int x1)]) (st' := []) (h' := hp M) rfl ?_
          refine am_Y.weak (lv2 := [(0, .ref 5), (1, .int x1), (2, .int (x2 + (1 : Int32)))]) rfl rfl ⟨rfl, rfl, rfl, trivial⟩ ?_
          exact ih x1 (x2 + (1 : Int32)) M _ h
set_option maxRecDepth 100000 in
theorem t_w_byRank {S : Nat × (Nat → Int32)} (N : Nat) (x1 : Int32) (M : Mem) (r : Int32) (h : f_w_byRank N x1 M = some r) : am_Y S 4 0 0 am_M58 0 [(0, .ref 5), (1, .int x1)] [] (hp M) (some (.int r)) (hp M) := by
  rw [f_w_byRank] at h
  refine am_Y.run (k := 2) (pc' := 2) (lv' := [(2, .int (0 : Int32)), (0, .ref 5), (1, .int x1)]) (st' := []) (h' := hp M) rfl ?_
  refine am_Y.weak (lv2 := [(0, .ref 5), (1, .int x1), (2, .int (0 : Int32))]) rfl rfl ⟨rfl, rfl, rfl, trivial⟩ ?_
  exact t_w_byRank_2 N N x1 (0 : Int32) M _ h
set_option maxRecDepth 100000 in
theorem t_m_byRank_12 {S : Nat × (Nat → Int32)} (N : Nat) (K5 : Int32 → Int32 → Int32 → Mem → Option Int32) (hK5 : ∀ (x1 : Int32) (x2 : Int32) (x3 : Int32) (M : Mem) (r : Int32), K5 x1 x2 x3 M = some r → am_Y S 2 0 0 am_M59 5 [(0, .ref 129), (1, .int x1), (2, .int x2), (3, .int x3)] [] (hp M) (some (.int r)) (hp M)) : ∀ (n : Nat) (x1 : Int32) (x2 : Int32) (x3 : Int32) (x4 : Int32) (M : Mem) (r : Int32), f_m_byRank_12 N K5 n x1 x2 x3 x4 M = some r → am_Y S 2 0 0 am_M59 12 [(0, .ref 129), (1, .int x1), (2, .int x2), (3, .int x3), (4, .int x4)] [] (hp M) (some (.int r)) (hp M) := by
  intro n
  induction n with
  | zero =>
    intro x1 x2 x3 x4 M r h
    cases h
  | succ n ih =>
    intro x1 x2 x3 x4 M r h
    rw [f_m_byRank_12] at h
    refine am_Y.run (k := 5) (pc' := 20) (lv' := [(0, .ref 129), (1, .int x1), (2, .int x2), (3, .int x3), (4, .int x4)]) (st' := [.int (gi M 130 0), .int x4]) (h' := hp M) rfl ?_
    refine am_Y.br (c := (gi M 130 0) ≤ x4) _ (t := 63) (u := 23) (lv' := [(0, .ref 129), (1, .int x1), (2, .int x2), (3, .int x3), (4, .int x4)]) (st' := []) (h' := hp M) rfl (fun hc => ?_) (fun hc => ?_)
    · replace h := (if_pos hc).symm.trans h
      refine am_Y.run (k := 2) (pc' := 5) (lv' := [(3, .int (x3 + (-1 : Int32))), (0, .ref 129), (1, .int x1), (2, .int x2), (4, .int x4)]) (st' := []) (h' := hp M) rfl ?_
      refine am_Y.weak (lv2 := [(0, .ref 129), (1, .int x1), (2, .int x2), (3, .int (x3 + (-1 : Int32)))]) rfl rfl ⟨rfl, rfl, rfl, rfl, trivial⟩ ?_
      exact hK5 x1 x2 (x3 + (-1 : Int32)) M _ h
    · replace h := (if_neg hc).symm.trans h
      refine am_Y.run (k := 2) (pc' := 26) (lv' := [(0, .ref 129), (1, .int x1), (2, .int x2), (3, .int x3), (4, .int x4)]) (st' := [.int x4, .ref 129]) (h' := hp M) rfl ?_
      obtain ⟨q1, e_q1, h⟩ := Option.bind_eq_some_iff.mp h
      refine am_Y.call0 (M' := am_M128) (as := [.ref 129, .int x4]) (rest := []) (d' := 1) rfl (by omega) rfl rfl (t_m_isThere x4 M q1 e_q1) ?_
      refine am_Y.br (c := q1 = (0 : Int32)) _ (t := 57) (u := 32) (lv' := [(0, .ref 129), (1, .int x1), (2, .int x2), (3, .int x3), (4, .int x4)]) (st' := []) (h' := hp M) rfl (fun hc => ?_) (fun hc => ?_)
      · replace h := (if_pos hc).symm.trans h
        refine am_Y.run (k := 2) (pc' := 12) (lv' := [(4, .int (x4 + (1 : Int32))), (0, .ref 129), (1, .int x1), (2, .int x2), (3, .int x3)]) (st' := []) (h' := hp M) rfl ?_
        refine am_Y.weak (lv2 := [(0, .ref 129), (1, .int x1), (2, .int x2), (3, .int x3), (4, .int (x4 + (1 : Int32)))]) rfl rfl ⟨rfl, rfl, rfl, rfl, rfl, trivial⟩ ?_
        exact ih x1 x2 x3 (x4 + (1 : Int32)) M _ h
      · replace h := (if_neg hc).symm.trans h
        refine am_Y.run (k := 3) (pc' := 36) (lv' := [(0, .ref 129), (1, .int x1), (2, .int x2), (3, .int x3), (4, .int x4)]) (st' := [.int (0 : Int32), .int x4, .ref 129]) (h' := hp M) rfl ?_
        obtain ⟨q2, e_q2, h⟩ := Option.bind_eq_some_iff.mp h
        refine am_Y.call0 (M' := am_M146) (as := [.ref 129, .int x4, .int (0 : Int32)]) (rest := []) (d' := 0) rfl (by omega) rfl rfl (t_m_get x4 (0 : Int32) M q2 e_q2) ?_
        refine am_Y.run (k := 1) (pc' := 40) (lv' := [(0, .ref 129), (1, .int x1), (2, .int x2), (3, .int x3), (4, .int x4)]) (st' := [.int x3, .int q2]) (h' := hp M) rfl ?_
        refine am_Y.br (c := q2 = x3) _ (t := 46) (u := 43) (lv' := [(0, .ref 129), (1, .int x1), (2, .int x2), (3, .int x3), (4, .int x4)]) (st' := []) (h' := hp M) rfl (fun hc => ?_) (fun hc => ?_)
        · replace h := (if_pos hc).symm.trans h
          refine am_Y.run (k := 2) (pc' := 48) (lv' := [(0, .ref 129), (1, .int x1), (2, .int x2), (3, .int x3), (4, .int x4)]) (st' := [.int x1, .int x2]) (h' := hp M) rfl ?_
          refine am_Y.br (c := x2 = x1) _ (t := 51) (u := 54) (lv' := [(0, .ref 129), (1, .int x1), (2, .int x2), (3, .int x3), (4, .int x4)]) (st' := []) (h' := hp M) rfl (fun hc => ?_) (fun hc => ?_)
          · replace h := (if_pos hc).symm.trans h
            refine am_Y.run (k := 1) (pc' := 53) (lv' := [(0, .ref 129), (1, .int x1), (2, .int x2), (3, .int x3), (4, .int x4)]) (st' := [.int x4]) (h' := hp M) rfl ?_
            obtain rfl := Option.some.inj h
            exact am_Y.ret rfl
          · replace h := (if_neg hc).symm.trans h
            refine am_Y.run (k := 3) (pc' := 12) (lv' := [(4, .int (x4 + (1 : Int32))), (2, .int (x2 + (1 : Int32))), (0, .ref 129), (1, .int x1), (3, .int x3)]) (st' := []) (h' := hp M) rfl ?_
            refine am_Y.weak (lv2 := [(0, .ref 129), (1, .int x1), (2, .int (x2 + (1 : Int32))), (3, .int x3), (4, .int (x4 + (1 : Int32)))]) rfl rfl ⟨rfl, rfl, rfl, rfl, rfl, trivial⟩ ?_
            exact ih x1 (x2 + (1 : Int32)) x3 (x4 + (1 : Int32)) M _ h
        · replace h := (if_neg hc).symm.trans h
          refine am_Y.run (k := 3) (pc' := 12) (lv' := [(4, .int (x4 + (1 : Int32))), (0, .ref 129), (1, .int x1), (2, .int x2), (3, .int x3)]) (st' := []) (h' := hp M) rfl ?_
          refine am_Y.weak (lv2 := [(0, .ref 129), (1, .int x1), (2, .int x2), (3, .int x3), (4, .int (x4 + (1 : Int32)))]) rfl rfl ⟨rfl, rfl, rfl, rfl, rfl, trivial⟩ ?_
          exact ih x1 x2 x3 (x4 + (1 : Int32)) M _ h
set_option maxRecDepth 100000 in
theorem t_m_byRank_5 {S : Nat × (Nat → Int32)} (N : Nat) : ∀ (n : Nat) (x1 : Int32) (x2 : Int32) (x3 : Int32) (M : Mem) (r : Int32), f_m_byRank_5 N n x1 x2 x3 M = some r → am_Y S 2 0 0 am_M59 5 [(0, .ref 129), (1, .int x1), (2, .int x2), (3, .int x3)] [] (hp M) (some (.int r)) (hp M) := by
  intro n
  induction n with
  | zero =>
    intro x1 x2 x3 M r h
    cases h
  | succ n ih =>
    intro x1 x2 x3 M r h
    rw [f_m_byRank_5] at h
    refine am_Y.run (k := 1) (pc' := 6) (lv' := [(0, .ref 129), (1, .int x1), (2, .int x2), (3, .int x3)]) (st' := [.int x3]) (h' := hp M) rfl ?_
    refine am_Y.br (c := x3 < (0 : Int32)) _ (t := 69) (u := 9) (lv' := [(0, .ref 129), (1, .int x1), (2, .int x2), (3, .int x3)]) (st' := []) (h' := hp M) rfl (fun hc => ?_) (fun hc => ?_)
    · replace h := (if_pos hc).symm.trans h
      refine am_Y.run (k := 1) (pc' := 70) (lv' := [(0, .ref 129), (1, .int x1), (2, .int x2), (3, .int x3)]) (st' := [.int (-1 : Int32)]) (h' := hp M) rfl ?_
      obtain rfl := Option.some.inj h
      exact am_Y.ret rfl
    · replace h := (if_neg hc).symm.trans h
      refine am_Y.run (k := 2) (pc' := 12) (lv' := [(4, .int (0 : Int32)), (0, .ref 129), (1, .int x1), (2, .int x2), (3, .int x3)]) (st' := []) (h' := hp M) rfl ?_
      refine am_Y.weak (lv2 := [(0, .ref 129), (1, .int x1), (2, .int x2), (3, .int x3), (4, .int (0 : Int32))]) rfl rfl ⟨rfl, rfl, rfl, rfl, rfl, trivial⟩ ?_
      exact t_m_byRank_12 N _ ih N x1 x2 x3 (0 : Int32) M _ h
set_option maxRecDepth 100000 in
theorem t_m_byRank {S : Nat × (Nat → Int32)} (N : Nat) (x1 : Int32) (M : Mem) (r : Int32) (h : f_m_byRank N x1 M = some r) : am_Y S 2 0 0 am_M59 0 [(0, .ref 129), (1, .int x1)] [] (hp M) (some (.int r)) (hp M) := by
  rw [f_m_byRank] at h
  refine am_Y.run (k := 4) (pc' := 5) (lv' := [(3, .int (9 : Int32)), (2, .int (0 : Int32)), (0, .ref 129), (1, .int x1)]) (st' := []) (h' := hp M) rfl ?_
  refine am_Y.weak (lv2 := [(0, .ref 129), (1, .int x1), (2, .int (0 : Int32)), (3, .int (9 : Int32))]) rfl rfl ⟨rfl, rfl, rfl, rfl, trivial⟩ ?_
  exact t_m_byRank_5 N N x1 (0 : Int32) (9 : Int32) M _ h
set_option maxRecDepth 100000 in
theorem t_w_told {S : Nat × (Nat → Int32)} (N : Nat) (x1 : Int32) (x2 : Int32) (M : Mem) (r : Int32) (h : f_w_told N x1 x2 M = some r) : am_Y S 2 0 0 am_M60 0 [(0, .ref 5), (1, .int x1), (2, .int x2)] [] (hp M) (some (.int r)) (hp M) := by
  rw [f_w_told] at h
  refine am_Y.run (k := 4) (pc' := 8) (lv' := [(0, .ref 5), (1, .int x1), (2, .int x2)]) (st' := [.int x1, .ref 7]) (h' := hp M) rfl ?_
  refine am_Y.call0 (M' := am_M140) (as := [.ref 7, .int x1]) (rest := []) (d' := 1) rfl (by omega) rfl rfl (t_g_knows x1 M _ rfl) ?_
  refine am_Y.br (c := (f_g_knows x1 M) = (0 : Int32)) _ (t := 23) (u := 14) (lv' := [(0, .ref 5), (1, .int x1), (2, .int x2)]) (st' := []) (h' := hp M) rfl (fun hc => ?_) (fun hc => ?_)
  · replace h := (if_pos hc).symm.trans h
    refine am_Y.run (k := 1) (pc' := 24) (lv' := [(0, .ref 5), (1, .int x1), (2, .int x2)]) (st' := [.int (-1 : Int32)]) (h' := hp M) rfl ?_
    obtain rfl := Option.some.inj h
    exact am_Y.ret rfl
  · replace h := (if_neg hc).symm.trans h
    refine am_Y.run (k := 3) (pc' := 17) (lv' := [(0, .ref 5), (1, .int x1), (2, .int x2)]) (st' := [.int (3 : Int32), .int (0 : Int32), .int x2]) (h' := hp M) rfl ?_
    refine am_Y.call0 (M' := am_M102) (as := [.int x2, .int (0 : Int32), .int (3 : Int32)]) (rest := []) (d' := 0) rfl (by omega) rfl rfl (t_w_within x2 (0 : Int32) (3 : Int32) M _ rfl) ?_
    refine am_Y.br (c := (f_w_within x2 (0 : Int32) (3 : Int32) M) = (0 : Int32)) _ (t := 23) (u := 25) (lv' := [(0, .ref 5), (1, .int x1), (2, .int x2)]) (st' := []) (h' := hp M) rfl (fun hc => ?_) (fun hc => ?_)
    · replace h := (if_pos hc).symm.trans h
      refine am_Y.run (k := 1) (pc' := 24) (lv' := [(0, .ref 5), (1, .int x1), (2, .int x2)]) (st' := [.int (-1 : Int32)]) (h' := hp M) rfl ?_
      obtain rfl := Option.some.inj h
      exact am_Y.ret rfl
    · replace h := (if_neg hc).symm.trans h
      refine am_Y.run (k := 5) (pc' := 34) (lv' := [(0, .ref 5), (1, .int x1), (2, .int x2)]) (st' := [.int x2, .int x1, .ref 11]) (h' := hp M) rfl ?_
      obtain ⟨q1, e_q1, h⟩ := Option.bind_eq_some_iff.mp h
      refine am_Y.call0 (M' := am_M142) (as := [.ref 11, .int x1, .int x2]) (rest := []) (d' := 1) rfl (by omega) rfl rfl (t_e_countOf N x1 x2 M q1 e_q1) ?_
      obtain rfl := Option.some.inj h
      exact am_Y.ret rfl
set_option maxRecDepth 100000 in
theorem t_m_told_24 {S : Nat × (Nat → Int32)} (N : Nat) : ∀ (n : Nat) (x1 : Int32) (x2 : Int32) (x3 : Int32) (x4 : Int32) (M : Mem) (r : Int32), f_m_told_24 N n x1 x2 x3 x4 M = some r → am_Y S 2 0 0 am_M61 24 [(0, .ref 129), (1, .int x1), (2, .int x2), (3, .int x3), (4, .int x4)] [] (hp M) (some (.int r)) (hp M) := by
  intro n
  induction n with
  | zero =>
    intro x1 x2 x3 x4 M r h
    cases h
  | succ n ih =>
    intro x1 x2 x3 x4 M r h
    rw [f_m_told_24] at h
    refine am_Y.run (k := 5) (pc' := 33) (lv' := [(0, .ref 129), (1, .int x1), (2, .int x2), (3, .int x3), (4, .int x4)]) (st' := [.int (gi M 130 8), .int x4]) (h' := hp M) rfl ?_
    refine am_Y.br (c := (gi M 130 8) ≤ x4) _ (t := 70) (u := 36) (lv' := [(0, .ref 129), (1, .int x1), (2, .int x2), (3, .int x3), (4, .int x4)]) (st' := []) (h' := hp M) rfl (fun hc => ?_) (fun hc => ?_)
    · replace h := (if_pos hc).symm.trans h
      refine am_Y.run (k := 1) (pc' := 71) (lv' := [(0, .ref 129), (1, .int x1), (2, .int x2), (3, .int x3), (4, .int x4)]) (st' := [.int x3]) (h' := hp M) rfl ?_
      obtain rfl := Option.some.inj h
      exact am_Y.ret rfl
    · replace h := (if_neg hc).symm.trans h
      refine am_Y.run (k := 3) (pc' := 40) (lv' := [(0, .ref 129), (1, .int x1), (2, .int x2), (3, .int x3), (4, .int x4)]) (st' := [.int x4, .ref 129, .int x3]) (h' := hp M) rfl ?_
      obtain ⟨q1, e_q1, h⟩ := Option.bind_eq_some_iff.mp h
      refine am_Y.call0 (M' := am_M158) (as := [.ref 129, .int x4]) (rest := [.int x3]) (d' := 0) rfl (by omega) rfl rfl (t_m_whoOf x4 M q1 e_q1) ?_
      refine am_Y.run (k := 1) (pc' := 44) (lv' := [(0, .ref 129), (1, .int x1), (2, .int x2), (3, .int x3), (4, .int x4)]) (st' := [.int x1, .int q1, .int x3]) (h' := hp M) rfl ?_
      refine am_Y.br (c := q1 = x1) _ (t := 47) (u := 61) (lv' := [(0, .ref 129), (1, .int x1), (2, .int x2), (3, .int x3), (4, .int x4)]) (st' := [.int x3]) (h' := hp M) rfl (fun hc => ?_) (fun hc => ?_)
      · replace h := (if_pos hc).symm.trans h
        refine am_Y.run (k := 2) (pc' := 50) (lv' := [(0, .ref 129), (1, .int x1), (2, .int x2), (3, .int x3), (4, .int x4)]) (st' := [.int x4, .ref 129, .int x3]) (h' := hp M) rfl ?_
        obtain ⟨q2, e_q2, h⟩ := Option.bind_eq_some_iff.mp h
        refine am_Y.call0 (M' := am_M159) (as := [.ref 129, .int x4]) (rest := [.int x3]) (d' := 0) rfl (by omega) rfl rfl (t_m_kindOf x4 M q2 e_q2) ?_
        refine am_Y.run (k := 1) (pc' := 54) (lv' := [(0, .ref 129), (1, .int x1), (2, .int x2), (3, .int x3), (4, .int x4)]) (st' := [.int x2, .int q2, .int x3]) (h' := hp M) rfl ?_
        refine am_Y.br (c := q2 = x2) _ (t := 57) (u := 61) (lv' := [(0, .ref 129), (1, .int x1), (2, .int x2), (3, .int x3), (4, .int x4)]) (st' := [.int x3]) (h' := hp M) rfl (fun hc => ?_) (fun hc => ?_)
        · replace h := (if_pos hc).symm.trans h
          refine am_Y.run (k := 6) (pc' := 24) (lv' := [(4, .int (x4 + (1 : Int32))), (3, .int (x3 + (1 : Int32))), (0, .ref 129), (1, .int x1), (2, .int x2)]) (st' := []) (h' := hp M) rfl ?_
          refine am_Y.weak (lv2 := [(0, .ref 129), (1, .int x1), (2, .int x2), (3, .int (x3 + (1 : Int32))), (4, .int (x4 + (1 : Int32)))]) rfl rfl ⟨rfl, rfl, rfl, rfl, rfl, trivial⟩ ?_
          exact ih x1 x2 (x3 + (1 : Int32)) (x4 + (1 : Int32)) M _ h
        · replace h := (if_neg hc).symm.trans h
          refine am_Y.run (k := 5) (pc' := 24) (lv' := [(4, .int (x4 + (1 : Int32))), (3, .int (x3 + (0 : Int32))), (0, .ref 129), (1, .int x1), (2, .int x2)]) (st' := []) (h' := hp M) rfl ?_
          refine am_Y.weak (lv2 := [(0, .ref 129), (1, .int x1), (2, .int x2), (3, .int (x3 + (0 : Int32))), (4, .int (x4 + (1 : Int32)))]) rfl rfl ⟨rfl, rfl, rfl, rfl, rfl, trivial⟩ ?_
          exact ih x1 x2 (x3 + (0 : Int32)) (x4 + (1 : Int32)) M _ h
      · replace h := (if_neg hc).symm.trans h
        refine am_Y.run (k := 5) (pc' := 24) (lv' := [(4, .int (x4 + (1 : Int32))), (3, .int (x3 + (0 : Int32))), (0, .ref 129), (1, .int x1), (2, .int x2)]) (st' := []) (h' := hp M) rfl ?_
        refine am_Y.weak (lv2 := [(0, .ref 129), (1, .int x1), (2, .int x2), (3, .int (x3 + (0 : Int32))), (4, .int (x4 + (1 : Int32)))]) rfl rfl ⟨rfl, rfl, rfl, rfl, rfl, trivial⟩ ?_
        exact ih x1 x2 (x3 + (0 : Int32)) (x4 + (1 : Int32)) M _ h
set_option maxRecDepth 100000 in
theorem t_m_told {S : Nat × (Nat → Int32)} (N : Nat) (x1 : Int32) (x2 : Int32) (M : Mem) (r : Int32) (h : f_m_told N x1 x2 M = some r) : am_Y S 2 0 0 am_M61 0 [(0, .ref 129), (1, .int x1), (2, .int x2)] [] (hp M) (some (.int r)) (hp M) := by
  rw [f_m_told] at h
  refine am_Y.run (k := 2) (pc' := 2) (lv' := [(0, .ref 129), (1, .int x1), (2, .int x2)]) (st' := [.int x1, .ref 129]) (h' := hp M) rfl ?_
  refine am_Y.call0 (M' := am_M115) (as := [.ref 129, .int x1]) (rest := []) (d' := 1) rfl (by omega) rfl rfl (t_m_isGuest x1 M _ rfl) ?_
  refine am_Y.br (c := (f_m_isGuest x1 M) = (0 : Int32)) _ (t := 17) (u := 8) (lv' := [(0, .ref 129), (1, .int x1), (2, .int x2)]) (st' := []) (h' := hp M) rfl (fun hc => ?_) (fun hc => ?_)
  · replace h := (if_pos hc).symm.trans h
    refine am_Y.run (k := 1) (pc' := 18) (lv' := [(0, .ref 129), (1, .int x1), (2, .int x2)]) (st' := [.int (-1 : Int32)]) (h' := hp M) rfl ?_
    obtain rfl := Option.some.inj h
    exact am_Y.ret rfl
  · replace h := (if_neg hc).symm.trans h
    refine am_Y.run (k := 3) (pc' := 11) (lv' := [(0, .ref 129), (1, .int x1), (2, .int x2)]) (st' := [.int (3 : Int32), .int (0 : Int32), .int x2]) (h' := hp M) rfl ?_
    refine am_Y.call0 (M' := am_M104) (as := [.int x2, .int (0 : Int32), .int (3 : Int32)]) (rest := []) (d' := 0) rfl (by omega) rfl rfl (t_m_isIn x2 (0 : Int32) (3 : Int32) M _ rfl) ?_
    refine am_Y.br (c := (f_m_isIn x2 (0 : Int32) (3 : Int32) M) = (0 : Int32)) _ (t := 17) (u := 19) (lv' := [(0, .ref 129), (1, .int x1), (2, .int x2)]) (st' := []) (h' := hp M) rfl (fun hc => ?_) (fun hc => ?_)
    · replace h := (if_pos hc).symm.trans h
      refine am_Y.run (k := 1) (pc' := 18) (lv' := [(0, .ref 129), (1, .int x1), (2, .int x2)]) (st' := [.int (-1 : Int32)]) (h' := hp M) rfl ?_
      obtain rfl := Option.some.inj h
      exact am_Y.ret rfl
    · replace h := (if_neg hc).symm.trans h
      refine am_Y.run (k := 4) (pc' := 24) (lv' := [(4, .int (0 : Int32)), (3, .int (0 : Int32)), (0, .ref 129), (1, .int x1), (2, .int x2)]) (st' := []) (h' := hp M) rfl ?_
      refine am_Y.weak (lv2 := [(0, .ref 129), (1, .int x1), (2, .int x2), (3, .int (0 : Int32)), (4, .int (0 : Int32))]) rfl rfl ⟨rfl, rfl, rfl, rfl, rfl, trivial⟩ ?_
      exact t_m_told_24 N N x1 x2 (0 : Int32) (0 : Int32) M _ h
