/-! AM does what the functions say. -/
set_option maxRecDepth 100000 in
theorem t_w_meanDies_22 {S : Nat × (Nat → Int32)} (N : Nat) : ∀ (n : Nat) (x1 : Int32) (x2 : Int32) (x3 : Int32) (x4 : Int32) (M : Mem) (r : Int32), f_w_meanDies_22 N n x1 x2 x3 x4 M = some r → am_Y S 2 0 0 am_M62 22 [(0, .ref 5), (1, .int x1), (2, .int x2), (3, .int x3), (4, .int x4)] [] (hp M) (some (.int r)) (hp M) := by
  intro n
  induction n with
  | zero =>
    intro x1 x2 x3 x4 M r h
    cases h
  | succ n ih =>
    intro x1 x2 x3 x4 M r h
    rw [f_w_meanDies_22] at h
    refine am_Y.run (k := 2) (pc' := 25) (lv' := [(0, .ref 5), (1, .int x1), (2, .int x2), (3, .int x3), (4, .int x4)]) (st' := [.int x2, .int x4]) (h' := hp M) rfl ?_
    refine am_Y.br (c := x2 ≤ x4) _ (t := 52) (u := 28) (lv' := [(0, .ref 5), (1, .int x1), (2, .int x2), (3, .int x3), (4, .int x4)]) (st' := []) (h' := hp M) rfl (fun hc => ?_) (fun hc => ?_)
    · replace h := (if_pos hc).symm.trans h
      refine am_Y.run (k := 5) (pc' := 57) (lv' := [(0, .ref 5), (1, .int x1), (2, .int x2), (3, .int x3), (4, .int x4)]) (st' := [.int x1, .long (Int32.toInt64 x2), .long (Int32.toInt64 x3)]) (h' := hp M) rfl ?_
      obtain ⟨q1, e_q1, h⟩ := Option.bind_eq_some_iff.mp h
      refine am_Y.call0 (M' := am_M173) (as := [.long (Int32.toInt64 x3), .long (Int32.toInt64 x2), .int x1]) (rest := []) (d' := 1) rfl (by omega) rfl rfl (t_w_lowest N (Int32.toInt64 x3) (Int32.toInt64 x2) x1 M q1 e_q1) ?_
      refine am_Y.run (k := 1) (pc' := 61) (lv' := [(0, .ref 5), (1, .int x1), (2, .int x2), (3, .int x3), (4, .int x4)]) (st' := [.int (Int64.toInt32 q1)]) (h' := hp M) rfl ?_
      obtain rfl := Option.some.inj h
      exact am_Y.ret rfl
    · replace h := (if_neg hc).symm.trans h
      refine am_Y.run (k := 5) (pc' := 38) (lv' := [(0, .ref 5), (1, .int x1), (2, .int x2), (3, .int x3), (4, .int x4)]) (st' := [.int x4, .ref 11, .int x3]) (h' := hp M) rfl ?_
      obtain ⟨q2, e_q2, h⟩ := Option.bind_eq_some_iff.mp h
      refine am_Y.call0 (M' := am_M162) (as := [.ref 11, .int x4]) (rest := [.int x3]) (d' := 0) rfl (by omega) rfl rfl (t_e_page x4 M q2 e_q2) ?_
      refine am_Y.call0 (M' := am_M165) (as := [.int q2]) (rest := [.int x3]) (d' := 0) rfl (by omega) rfl rfl (t_e_diesOf q2 M _ rfl) ?_
      refine am_Y.run (k := 4) (pc' := 22) (lv' := [(4, .int (x4 + (1 : Int32))), (3, .int (x3 + (f_e_diesOf q2 M))), (0, .ref 5), (1, .int x1), (2, .int x2)]) (st' := []) (h' := hp M) rfl ?_
      refine am_Y.weak (lv2 := [(0, .ref 5), (1, .int x1), (2, .int x2), (3, .int (x3 + (f_e_diesOf q2 M))), (4, .int (x4 + (1 : Int32)))]) rfl rfl ⟨rfl, rfl, rfl, rfl, rfl, trivial⟩ ?_
      exact ih x1 x2 (x3 + (f_e_diesOf q2 M)) (x4 + (1 : Int32)) M _ h
set_option maxRecDepth 100000 in
theorem t_w_meanDies {S : Nat × (Nat → Int32)} (N : Nat) (x1 : Int32) (M : Mem) (r : Int32) (h : f_w_meanDies N x1 M = some r) : am_Y S 2 0 0 am_M62 0 [(0, .ref 5), (1, .int x1)] [] (hp M) (some (.int r)) (hp M) := by
  rw [f_w_meanDies] at h
  refine am_Y.run (k := 3) (pc' := 7) (lv' := [(0, .ref 5), (1, .int x1)]) (st' := [.ref 11]) (h' := hp M) rfl ?_
  refine am_Y.call0 (M' := am_M161) (as := [.ref 11]) (rest := []) (d' := 0) rfl (by omega) rfl rfl (t_e_written M _ rfl) ?_
  refine am_Y.run (k := 2) (pc' := 12) (lv' := [(2, .int (f_e_written M)), (0, .ref 5), (1, .int x1)]) (st' := [.int (f_e_written M)]) (h' := hp M) rfl ?_
  refine am_Y.br (c := (0 : Int32) < (f_e_written M)) _ (t := 17) (u := 15) (lv' := [(2, .int (f_e_written M)), (0, .ref 5), (1, .int x1)]) (st' := []) (h' := hp M) rfl (fun hc => ?_) (fun hc => ?_)
  · replace h := (if_pos hc).symm.trans h
    refine am_Y.run (k := 4) (pc' := 22) (lv' := [(4, .int (0 : Int32)), (3, .int (0 : Int32)), (2, .int (f_e_written M)), (0, .ref 5), (1, .int x1)]) (st' := []) (h' := hp M) rfl ?_
    refine am_Y.weak (lv2 := [(0, .ref 5), (1, .int x1), (2, .int (f_e_written M)), (3, .int (0 : Int32)), (4, .int (0 : Int32))]) rfl rfl ⟨rfl, rfl, rfl, rfl, rfl, trivial⟩ ?_
    exact t_w_meanDies_22 N N x1 (f_e_written M) (0 : Int32) (0 : Int32) M _ h
  · replace h := (if_neg hc).symm.trans h
    refine am_Y.run (k := 1) (pc' := 16) (lv' := [(2, .int (f_e_written M)), (0, .ref 5), (1, .int x1)]) (st' := [.int (-1 : Int32)]) (h' := hp M) rfl ?_
    obtain rfl := Option.some.inj h
    exact am_Y.ret rfl
set_option maxRecDepth 100000 in
theorem t_m_meanDies_13 {S : Nat × (Nat → Int32)} (N : Nat) : ∀ (n : Nat) (x1 : Int32) (x2 : Int32) (x3 : Int32) (M : Mem) (r : Int32), f_m_meanDies_13 N n x1 x2 x3 M = some r → am_Y S 3 0 0 am_M63 13 [(0, .ref 129), (1, .int x1), (2, .int x2), (3, .int x3)] [] (hp M) (some (.int r)) (hp M) := by
  intro n
  induction n with
  | zero =>
    intro x1 x2 x3 M r h
    cases h
  | succ n ih =>
    intro x1 x2 x3 M r h
    rw [f_m_meanDies_13] at h
    refine am_Y.run (k := 2) (pc' := 15) (lv' := [(0, .ref 129), (1, .int x1), (2, .int x2), (3, .int x3)]) (st' := [.ref 129, .int x3]) (h' := hp M) rfl ?_
    refine am_Y.call0 (M' := am_M166) (as := [.ref 129]) (rest := [.int x3]) (d' := 0) rfl (by omega) rfl rfl (t_m_shown M _ rfl) ?_
    refine am_Y.br (c := (f_m_shown M) ≤ x3) _ (t := 35) (u := 21) (lv' := [(0, .ref 129), (1, .int x1), (2, .int x2), (3, .int x3)]) (st' := []) (h' := hp M) rfl (fun hc => ?_) (fun hc => ?_)
    · replace h := (if_pos hc).symm.trans h
      refine am_Y.run (k := 3) (pc' := 38) (lv' := [(0, .ref 129), (1, .int x1), (2, .int x2), (3, .int x3)]) (st' := [.ref 129, .long (Int32.toInt64 x2)]) (h' := hp M) rfl ?_
      refine am_Y.call0 (M' := am_M166) (as := [.ref 129]) (rest := [.long (Int32.toInt64 x2)]) (d' := 0) rfl (by omega) rfl rfl (t_m_shown M _ rfl) ?_
      refine am_Y.run (k := 2) (pc' := 43) (lv' := [(0, .ref 129), (1, .int x1), (2, .int x2), (3, .int x3)]) (st' := [.int x1, .long (Int32.toInt64 (f_m_shown M)), .long (Int32.toInt64 x2)]) (h' := hp M) rfl ?_
      obtain ⟨q1, e_q1, h⟩ := Option.bind_eq_some_iff.mp h
      refine am_Y.call0 (M' := am_M179) (as := [.long (Int32.toInt64 x2), .long (Int32.toInt64 (f_m_shown M)), .int x1]) (rest := []) (d' := 1) rfl (by omega) rfl rfl (t_m_part N (Int32.toInt64 x2) (Int32.toInt64 (f_m_shown M)) x1 M q1 e_q1) ?_
      refine am_Y.run (k := 1) (pc' := 47) (lv' := [(0, .ref 129), (1, .int x1), (2, .int x2), (3, .int x3)]) (st' := [.int (Int64.toInt32 q1)]) (h' := hp M) rfl ?_
      obtain rfl := Option.some.inj h
      exact am_Y.ret rfl
    · replace h := (if_neg hc).symm.trans h
      refine am_Y.run (k := 3) (pc' := 24) (lv' := [(0, .ref 129), (1, .int x1), (2, .int x2), (3, .int x3)]) (st' := [.int x3, .ref 129, .int x2]) (h' := hp M) rfl ?_
      obtain ⟨q2, e_q2, h⟩ := Option.bind_eq_some_iff.mp h
      refine am_Y.call0 (M' := am_M169) (as := [.ref 129, .int x3]) (rest := [.int x2]) (d' := 2) rfl (by omega) rfl rfl (t_m_diedIn x3 M q2 e_q2) ?_
      refine am_Y.run (k := 4) (pc' := 13) (lv' := [(3, .int (x3 + (1 : Int32))), (2, .int (x2 + q2)), (0, .ref 129), (1, .int x1)]) (st' := []) (h' := hp M) rfl ?_
      refine am_Y.weak (lv2 := [(0, .ref 129), (1, .int x1), (2, .int (x2 + q2)), (3, .int (x3 + (1 : Int32)))]) rfl rfl ⟨rfl, rfl, rfl, rfl, trivial⟩ ?_
      exact ih x1 (x2 + q2) (x3 + (1 : Int32)) M _ h
set_option maxRecDepth 100000 in
theorem t_m_meanDies {S : Nat × (Nat → Int32)} (N : Nat) (x1 : Int32) (M : Mem) (r : Int32) (h : f_m_meanDies N x1 M = some r) : am_Y S 3 0 0 am_M63 0 [(0, .ref 129), (1, .int x1)] [] (hp M) (some (.int r)) (hp M) := by
  rw [f_m_meanDies] at h
  refine am_Y.run (k := 1) (pc' := 1) (lv' := [(0, .ref 129), (1, .int x1)]) (st' := [.ref 129]) (h' := hp M) rfl ?_
  refine am_Y.call0 (M' := am_M166) (as := [.ref 129]) (rest := []) (d' := 0) rfl (by omega) rfl rfl (t_m_shown M _ rfl) ?_
  refine am_Y.br (c := (f_m_shown M) = (0 : Int32)) _ (t := 7) (u := 9) (lv' := [(0, .ref 129), (1, .int x1)]) (st' := []) (h' := hp M) rfl (fun hc => ?_) (fun hc => ?_)
  · replace h := (if_pos hc).symm.trans h
    refine am_Y.run (k := 1) (pc' := 8) (lv' := [(0, .ref 129), (1, .int x1)]) (st' := [.int (-1 : Int32)]) (h' := hp M) rfl ?_
    obtain rfl := Option.some.inj h
    exact am_Y.ret rfl
  · replace h := (if_neg hc).symm.trans h
    refine am_Y.run (k := 4) (pc' := 13) (lv' := [(3, .int (0 : Int32)), (2, .int (0 : Int32)), (0, .ref 129), (1, .int x1)]) (st' := []) (h' := hp M) rfl ?_
    refine am_Y.weak (lv2 := [(0, .ref 129), (1, .int x1), (2, .int (0 : Int32)), (3, .int (0 : Int32))]) rfl rfl ⟨rfl, rfl, rfl, rfl, trivial⟩ ?_
    exact t_m_meanDies_13 N N x1 (0 : Int32) (0 : Int32) M _ h
set_option maxRecDepth 100000 in
theorem t_k_fill0_13_5 {S : Nat × (Nat → Int32)} (N : Nat) : ∀ (n : Nat) (x1 : Int32) (x2 : Int32) (x3 : Int32) (M : Mem) (M' : Mem), f_k_fill0_13_5 N n x1 x2 x3 M = some M' → am_Y S 0 0 0 am_M257 5 [(0, .ref 13), (1, .int x1), (2, .int x2), (3, .int x3)] [] (hp M) none (hp M') := by
  intro n
  induction n with
  | zero =>
    intro x1 x2 x3 M M' h
    cases h
  | succ n ih =>
    intro x1 x2 x3 M M' h
    rw [f_k_fill0_13_5] at h
    refine am_Y.run (k := 2) (pc' := 7) (lv' := [(0, .ref 13), (1, .int x1), (2, .int x2), (3, .int x3)]) (st' := [.int x3, .int x2]) (h' := hp M) rfl ?_
    refine am_Y.br (c := x3 ≤ x2) _ (t := 20) (u := 10) (lv' := [(0, .ref 13), (1, .int x1), (2, .int x2), (3, .int x3)]) (st' := []) (h' := hp M) rfl (fun hc => ?_) (fun hc => ?_)
    · replace h := (if_pos hc).symm.trans h
      obtain rfl := Option.some.inj h
      exact am_Y.ret rfl
    · replace h := (if_neg hc).symm.trans h
      refine am_Y.run (k := 3) (pc' := 13) (lv' := [(0, .ref 13), (1, .int x1), (2, .int x2), (3, .int x3)]) (st' := [.int x1, .int x2, .ref 13]) (h' := hp M) rfl ?_
      obtain ⟨g, h⟩ := am_itg h
      refine am_Y.iast (a := 8) (n := 100) rfl rfl g ?_
      refine am_Y.run (k := 0) (pc' := _) (lv' := [(0, .ref 13), (1, .int x1), (2, .int x2), (3, .int x3)]) (st' := []) (h' := hp (si M 13 (x2).toNatClampNeg x1)) rfl ?_
      obtain ⟨q1, e_q1, h⟩ := Option.bind_eq_some_iff.mp h
      rw [Option.some.inj e_q1]
      refine am_Y.run (k := 2) (pc' := 5) (lv' := [(2, .int (x2 + (1 : Int32))), (0, .ref 13), (1, .int x1), (3, .int x3)]) (st' := []) (h' := hp q1) rfl ?_
      refine am_Y.weak (lv2 := [(0, .ref 13), (1, .int x1), (2, .int (x2 + (1 : Int32))), (3, .int x3)]) rfl rfl ⟨rfl, rfl, rfl, rfl, trivial⟩ ?_
      exact ih x1 (x2 + (1 : Int32)) x3 q1 _ h
set_option maxRecDepth 100000 in
theorem t_k_fill0_13 {S : Nat × (Nat → Int32)} (N : Nat) (x1 : Int32) (M : Mem) (M' : Mem) (h : f_k_fill0_13 N x1 M = some M') : am_Y S 0 0 0 am_M257 0 [(0, .ref 13), (1, .int x1)] [] (hp M) none (hp M') := by
  rw [f_k_fill0_13] at h
  refine am_Y.run (k := 5) (pc' := 5) (lv' := [(3, .int (100 : Int32)), (2, .int (0 : Int32)), (0, .ref 13), (1, .int x1)]) (st' := []) (h' := hp M) rfl ?_
  refine am_Y.weak (lv2 := [(0, .ref 13), (1, .int x1), (2, .int (0 : Int32)), (3, .int (100 : Int32))]) rfl rfl ⟨rfl, rfl, rfl, rfl, trivial⟩ ?_
  exact t_k_fill0_13_5 N N x1 (0 : Int32) (100 : Int32) M _ h
set_option maxRecDepth 100000 in
theorem t_e_momentsHeld_118 {S : Nat × (Nat → Int32)} (N : Nat) (K80 : Int32 → Int32 → Int32 → Int32 → Mem → Option (Int32 × Mem)) (hK80 : ∀ (x1 : Int32) (x2 : Int32) (x3 : Int32) (x4 : Int32) (M : Mem) (r : Int32) (M' : Mem), K80 x1 x2 x3 x4 M = some (r, M') → am_Y S 1 0 0 am_M195 80 [(0, .ref 11), (1, .int x1), (2, .int x2), (3, .int x3), (4, .int x4)] [] (hp M) (some (.int r)) (hp M')) (x1 : Int32) (x3 : Int32) (x4 : Int32) (s0 : Int32) (M : Mem) (r : Int32) (M' : Mem) (h : f_e_momentsHeld_118 N K80 x1 x3 x4 s0 M = some (r, M')) : am_Y S 1 0 0 am_M195 118 [(0, .ref 11), (1, .int x1), (3, .int x3), (4, .int x4)] [.int s0] (hp M) (some (.int r)) (hp M') := by
  rw [f_e_momentsHeld_118] at h
  refine am_Y.run (k := 5) (pc' := 123) (lv' := [(2, .int s0), (0, .ref 11), (1, .int x1), (3, .int x3), (4, .int x4)]) (st' := [.int (s0 &&& x1), .int x3]) (h' := hp M) rfl ?_
  refine am_Y.br (c := (s0 &&& x1) = (0 : Int32)) _ (t := 130) (u := 126) (lv' := [(2, .int s0), (0, .ref 11), (1, .int x1), (3, .int x3), (4, .int x4)]) (st' := [.int x3]) (h' := hp M) rfl (fun hc => ?_) (fun hc => ?_)
  · replace h := (if_pos hc).symm.trans h
    refine am_Y.run (k := 5) (pc' := 80) (lv' := [(4, .int (x4 + (1 : Int32))), (3, .int (x3 + (0 : Int32))), (2, .int s0), (0, .ref 11), (1, .int x1)]) (st' := []) (h' := hp M) rfl ?_
    refine am_Y.weak (lv2 := [(0, .ref 11), (1, .int x1), (2, .int s0), (3, .int (x3 + (0 : Int32))), (4, .int (x4 + (1 : Int32)))]) rfl rfl ⟨rfl, rfl, rfl, rfl, rfl, trivial⟩ ?_
    exact hK80 x1 s0 (x3 + (0 : Int32)) (x4 + (1 : Int32)) M _ _ h
  · replace h := (if_neg hc).symm.trans h
    refine am_Y.run (k := 6) (pc' := 80) (lv' := [(4, .int (x4 + (1 : Int32))), (3, .int (x3 + (1 : Int32))), (2, .int s0), (0, .ref 11), (1, .int x1)]) (st' := []) (h' := hp M) rfl ?_
    refine am_Y.weak (lv2 := [(0, .ref 11), (1, .int x1), (2, .int s0), (3, .int (x3 + (1 : Int32))), (4, .int (x4 + (1 : Int32)))]) rfl rfl ⟨rfl, rfl, rfl, rfl, rfl, trivial⟩ ?_
    exact hK80 x1 s0 (x3 + (1 : Int32)) (x4 + (1 : Int32)) M _ _ h
set_option maxRecDepth 100000 in
theorem t_e_momentsHeld_80 {S : Nat × (Nat → Int32)} (N : Nat) : ∀ (n : Nat) (x1 : Int32) (x2 : Int32) (x3 : Int32) (x4 : Int32) (M : Mem) (r : Int32) (M' : Mem), f_e_momentsHeld_80 N n x1 x2 x3 x4 M = some (r, M') → am_Y S 1 0 0 am_M195 80 [(0, .ref 11), (1, .int x1), (2, .int x2), (3, .int x3), (4, .int x4)] [] (hp M) (some (.int r)) (hp M') := by
  intro n
  induction n with
  | zero =>
    intro x1 x2 x3 x4 M r M' h
    cases h
  | succ n ih =>
    intro x1 x2 x3 x4 M r M' h
    rw [f_e_momentsHeld_80] at h
    refine am_Y.run (k := 2) (pc' := 83) (lv' := [(0, .ref 11), (1, .int x1), (2, .int x2), (3, .int x3), (4, .int x4)]) (st' := [.ref 11, .int x4]) (h' := hp M) rfl ?_
    refine am_Y.call0 (M' := am_M121) (as := [.ref 11]) (rest := [.int x4]) (d' := 0) rfl (by omega) rfl rfl (t_e_moment M _ rfl) ?_
    refine am_Y.br (c := (f_e_moment M) ≤ x4) _ (t := 139) (u := 89) (lv' := [(0, .ref 11), (1, .int x1), (2, .int x2), (3, .int x3), (4, .int x4)]) (st' := []) (h' := hp M) rfl (fun hc => ?_) (fun hc => ?_)
    · replace h := (if_pos hc).symm.trans h
      refine am_Y.run (k := 1) (pc' := 140) (lv' := [(0, .ref 11), (1, .int x1), (2, .int x2), (3, .int x3), (4, .int x4)]) (st' := [.int x3]) (h' := hp M) rfl ?_
      obtain ⟨rfl, rfl⟩ := Prod.mk.inj (Option.some.inj h)
      exact am_Y.ret rfl
    · replace h := (if_neg hc).symm.trans h
      refine am_Y.run (k := 2) (pc' := 93) (lv' := [(0, .ref 11), (1, .int x1), (2, .int x2), (3, .int x3), (4, .int x4)]) (st' := [.int (99 : Int32), .int x4]) (h' := hp M) rfl ?_
      refine am_Y.br (c := (99 : Int32) < x4) _ (t := 139) (u := 96) (lv' := [(0, .ref 11), (1, .int x1), (2, .int x2), (3, .int x3), (4, .int x4)]) (st' := []) (h' := hp M) rfl (fun hc => ?_) (fun hc => ?_)
      · replace h := (if_pos hc).symm.trans h
        refine am_Y.run (k := 1) (pc' := 140) (lv' := [(0, .ref 11), (1, .int x1), (2, .int x2), (3, .int x3), (4, .int x4)]) (st' := [.int x3]) (h' := hp M) rfl ?_
        obtain ⟨rfl, rfl⟩ := Prod.mk.inj (Option.some.inj h)
        exact am_Y.ret rfl
      · replace h := (if_neg hc).symm.trans h
        refine am_Y.run (k := 3) (pc' := 102) (lv' := [(0, .ref 11), (1, .int x1), (2, .int x2), (3, .int x3), (4, .int x4)]) (st' := [.int x4, .ref 13]) (h' := hp M) rfl ?_
        obtain ⟨g, h⟩ := am_itg h
        refine am_Y.iald (a := 8) (n := 100) rfl rfl g ?_
        refine am_Y.run (k := 1) (pc' := 104) (lv' := [(0, .ref 11), (1, .int x1), (2, .int x2), (3, .int x3), (4, .int x4)]) (st' := [.int (-1 : Int32), .int (gi M 13 (x4).toNatClampNeg)]) (h' := hp M) rfl ?_
        refine am_Y.br (c := (gi M 13 (x4).toNatClampNeg) = (-1 : Int32)) _ (t := 107) (u := 111) (lv' := [(0, .ref 11), (1, .int x1), (2, .int x2), (3, .int x3), (4, .int x4)]) (st' := []) (h' := hp M) rfl (fun hc => ?_) (fun hc => ?_)
        · replace h := (if_pos hc).symm.trans h
          refine am_Y.run (k := 2) (pc' := 118) (lv' := [(0, .ref 11), (1, .int x1), (2, .int x2), (3, .int x3), (4, .int x4)]) (st' := [.int x2]) (h' := hp M) rfl ?_
          refine am_Y.weak (lv2 := [(0, .ref 11), (1, .int x1), (3, .int x3), (4, .int x4)]) rfl rfl ⟨rfl, rfl, rfl, rfl, trivial⟩ ?_
          exact t_e_momentsHeld_118 N _ ih x1 x3 x4 x2 M _ _ h
        · replace h := (if_neg hc).symm.trans h
          refine am_Y.run (k := 3) (pc' := 117) (lv' := [(0, .ref 11), (1, .int x1), (2, .int x2), (3, .int x3), (4, .int x4)]) (st' := [.int x4, .ref 13]) (h' := hp M) rfl ?_
          obtain ⟨g, h⟩ := am_itg h
          refine am_Y.iald (a := 8) (n := 100) rfl rfl g ?_
          refine am_Y.weak (lv2 := [(0, .ref 11), (1, .int x1), (3, .int x3), (4, .int x4)]) rfl rfl ⟨rfl, rfl, rfl, rfl, trivial⟩ ?_
          exact t_e_momentsHeld_118 N _ ih x1 x3 x4 (gi M 13 (x4).toNatClampNeg) M _ _ h
set_option maxRecDepth 100000 in
theorem t_e_momentsHeld_10 {S : Nat × (Nat → Int32)} (N : Nat) : ∀ (n : Nat) (x1 : Int32) (x2 : Int32) (M : Mem) (r : Int32) (M' : Mem), f_e_momentsHeld_10 N n x1 x2 M = some (r, M') → am_Y S 1 0 0 am_M195 10 [(0, .ref 11), (1, .int x1), (2, .int x2)] [] (hp M) (some (.int r)) (hp M') := by
  intro n
  induction n with
  | zero =>
    intro x1 x2 M r M' h
    cases h
  | succ n ih =>
    intro x1 x2 M r M' h
    rw [f_e_momentsHeld_10] at h
    refine am_Y.run (k := 2) (pc' := 12) (lv' := [(0, .ref 11), (1, .int x1), (2, .int x2)]) (st' := [.ref 11, .int x2]) (h' := hp M) rfl ?_
    refine am_Y.call0 (M' := am_M151) (as := [.ref 11]) (rest := [.int x2]) (d' := 0) rfl (by omega) rfl rfl (t_e_spoken M _ rfl) ?_
    refine am_Y.br (c := (f_e_spoken M) ≤ x2) _ (t := 73) (u := 18) (lv' := [(0, .ref 11), (1, .int x1), (2, .int x2)]) (st' := []) (h' := hp M) rfl (fun hc => ?_) (fun hc => ?_)
    · replace h := (if_pos hc).symm.trans h
      refine am_Y.run (k := 6) (pc' := 80) (lv' := [(4, .int (0 : Int32)), (3, .int (0 : Int32)), (2, .int (0 : Int32)), (0, .ref 11), (1, .int x1)]) (st' := []) (h' := hp M) rfl ?_
      refine am_Y.weak (lv2 := [(0, .ref 11), (1, .int x1), (2, .int (0 : Int32)), (3, .int (0 : Int32)), (4, .int (0 : Int32))]) rfl rfl ⟨rfl, rfl, rfl, rfl, rfl, trivial⟩ ?_
      exact t_e_momentsHeld_80 N N x1 (0 : Int32) (0 : Int32) (0 : Int32) M _ _ h
    · replace h := (if_neg hc).symm.trans h
      refine am_Y.run (k := 2) (pc' := 20) (lv' := [(0, .ref 11), (1, .int x1), (2, .int x2)]) (st' := [.int x2, .ref 11]) (h' := hp M) rfl ?_
      obtain ⟨q2, e_q2, h⟩ := Option.bind_eq_some_iff.mp h
      refine am_Y.call0 (M' := am_M152) (as := [.ref 11, .int x2]) (rest := []) (d' := 0) rfl (by omega) rfl rfl (t_e_entry x2 M q2 e_q2) ?_
      refine am_Y.run (k := 2) (pc' := 25) (lv' := [(3, .int q2), (0, .ref 11), (1, .int x1), (2, .int x2)]) (st' := [.int q2]) (h' := hp M) rfl ?_
      refine am_Y.call0 (M' := am_M156) (as := [.int q2]) (rest := []) (d' := 0) rfl (by omega) rfl rfl (t_e_fallsOf q2 M _ rfl) ?_
      refine am_Y.run (k := 4) (pc' := 35) (lv' := [(4, .int (f_e_fallsOf q2 M)), (3, .int q2), (0, .ref 11), (1, .int x1), (2, .int x2)]) (st' := [.int (99 : Int32), .int (0 : Int32), .int (f_e_fallsOf q2 M)]) (h' := hp M) rfl ?_
      refine am_Y.call0 (M' := am_M102) (as := [.int (f_e_fallsOf q2 M), .int (0 : Int32), .int (99 : Int32)]) (rest := []) (d' := 0) rfl (by omega) rfl rfl (t_w_within (f_e_fallsOf q2 M) (0 : Int32) (99 : Int32) M _ rfl) ?_
      refine am_Y.br (c := (f_w_within (f_e_fallsOf q2 M) (0 : Int32) (99 : Int32) M) = (0 : Int32)) _ (t := 67) (u := 41) (lv' := [(4, .int (f_e_fallsOf q2 M)), (3, .int q2), (0, .ref 11), (1, .int x1), (2, .int x2)]) (st' := []) (h' := hp M) rfl (fun hc => ?_) (fun hc => ?_)
      · replace h := (if_pos hc).symm.trans h
        refine am_Y.run (k := 2) (pc' := 10) (lv' := [(2, .int (x2 + (1 : Int32))), (4, .int (f_e_fallsOf q2 M)), (3, .int q2), (0, .ref 11), (1, .int x1)]) (st' := []) (h' := hp M) rfl ?_
        refine am_Y.weak (lv2 := [(0, .ref 11), (1, .int x1), (2, .int (x2 + (1 : Int32)))]) rfl rfl ⟨rfl, rfl, rfl, trivial⟩ ?_
        exact ih x1 (x2 + (1 : Int32)) M _ _ h
      · replace h := (if_neg hc).symm.trans h
        refine am_Y.run (k := 6) (pc' := 53) (lv' := [(4, .int (f_e_fallsOf q2 M)), (3, .int q2), (0, .ref 11), (1, .int x1), (2, .int x2)]) (st' := [.int (f_e_fallsOf q2 M), .ref 13, .int (f_e_fallsOf q2 M), .ref 13]) (h' := hp M) rfl ?_
        obtain ⟨g, h⟩ := am_itg h
        refine am_Y.iald (a := 8) (n := 100) rfl rfl g ?_
        refine am_Y.run (k := 1) (pc' := 55) (lv' := [(4, .int (f_e_fallsOf q2 M)), (3, .int q2), (0, .ref 11), (1, .int x1), (2, .int x2)]) (st' := [.int (0 : Int32), .int (gi M 13 ((f_e_fallsOf q2 M)).toNatClampNeg), .int (f_e_fallsOf q2 M), .ref 13]) (h' := hp M) rfl ?_
        refine am_Y.call0 (M' := am_M246) (as := [.int (gi M 13 ((f_e_fallsOf q2 M)).toNatClampNeg), .int (0 : Int32)]) (rest := [.int (f_e_fallsOf q2 M), .ref 13]) (d' := 0) rfl (by omega) rfl rfl (t_k_max0 (gi M 13 ((f_e_fallsOf q2 M)).toNatClampNeg) (0 : Int32) M _ rfl) ?_
        refine am_Y.run (k := 1) (pc' := 59) (lv' := [(4, .int (f_e_fallsOf q2 M)), (3, .int q2), (0, .ref 11), (1, .int x1), (2, .int x2)]) (st' := [.int q2, .int (f_k_max0 (gi M 13 ((f_e_fallsOf q2 M)).toNatClampNeg) (0 : Int32) M), .int (f_e_fallsOf q2 M), .ref 13]) (h' := hp M) rfl ?_
        refine am_Y.call0 (M' := am_M154) (as := [.int q2]) (rest := [.int (f_k_max0 (gi M 13 ((f_e_fallsOf q2 M)).toNatClampNeg) (0 : Int32) M), .int (f_e_fallsOf q2 M), .ref 13]) (d' := 0) rfl (by omega) rfl rfl (t_e_whoOf q2 M _ rfl) ?_
        refine am_Y.call0 (M' := am_M256) (as := [.int (f_e_whoOf q2 M)]) (rest := [.int (f_k_max0 (gi M 13 ((f_e_fallsOf q2 M)).toNatClampNeg) (0 : Int32) M), .int (f_e_fallsOf q2 M), .ref 13]) (d' := 0) rfl (by omega) rfl rfl (t_w_bitOf (f_e_whoOf q2 M) M _ rfl) ?_
        refine am_Y.run (k := 1) (pc' := 66) (lv' := [(4, .int (f_e_fallsOf q2 M)), (3, .int q2), (0, .ref 11), (1, .int x1), (2, .int x2)]) (st' := [.int ((f_k_max0 (gi M 13 ((f_e_fallsOf q2 M)).toNatClampNeg) (0 : Int32) M) ||| (f_w_bitOf (f_e_whoOf q2 M) M)), .int (f_e_fallsOf q2 M), .ref 13]) (h' := hp M) rfl ?_
        obtain ⟨g, h⟩ := am_itg h
        refine am_Y.iast (a := 8) (n := 100) rfl rfl g ?_
        refine am_Y.run (k := 0) (pc' := _) (lv' := [(4, .int (f_e_fallsOf q2 M)), (3, .int q2), (0, .ref 11), (1, .int x1), (2, .int x2)]) (st' := []) (h' := hp (si M 13 ((f_e_fallsOf q2 M)).toNatClampNeg ((f_k_max0 (gi M 13 ((f_e_fallsOf q2 M)).toNatClampNeg) (0 : Int32) M) ||| (f_w_bitOf (f_e_whoOf q2 M) M)))) rfl ?_
        obtain ⟨q3, e_q3, h⟩ := Option.bind_eq_some_iff.mp h
        rw [Option.some.inj e_q3]
        refine am_Y.run (k := 2) (pc' := 10) (lv' := [(2, .int (x2 + (1 : Int32))), (4, .int (f_e_fallsOf q2 M)), (3, .int q2), (0, .ref 11), (1, .int x1)]) (st' := []) (h' := hp q3) rfl ?_
        refine am_Y.weak (lv2 := [(0, .ref 11), (1, .int x1), (2, .int (x2 + (1 : Int32)))]) rfl rfl ⟨rfl, rfl, rfl, trivial⟩ ?_
        exact ih x1 (x2 + (1 : Int32)) q3 _ _ h
set_option maxRecDepth 100000 in
theorem t_e_momentsHeld {S : Nat × (Nat → Int32)} (N : Nat) (x1 : Int32) (M : Mem) (r : Int32) (M' : Mem) (h : f_e_momentsHeld N x1 M = some (r, M')) : am_Y S 1 0 0 am_M195 0 [(0, .ref 11), (1, .int x1)] [] (hp M) (some (.int r)) (hp M') := by
  rw [f_e_momentsHeld] at h
  refine am_Y.run (k := 3) (pc' := 5) (lv' := [(0, .ref 11), (1, .int x1)]) (st' := [.int (-1 : Int32), .ref 13]) (h' := hp M) rfl ?_
  obtain ⟨q1, e_q1, h⟩ := Option.bind_eq_some_iff.mp h
  refine am_Y.call0 (M' := am_M257) (as := [.ref 13, .int (-1 : Int32)]) (rest := []) (d' := 0) rfl (by omega) rfl rfl (t_k_fill0_13 N (-1 : Int32) M q1 e_q1) ?_
  refine am_Y.run (k := 2) (pc' := 10) (lv' := [(2, .int (0 : Int32)), (0, .ref 11), (1, .int x1)]) (st' := []) (h' := hp q1) rfl ?_
  refine am_Y.weak (lv2 := [(0, .ref 11), (1, .int x1), (2, .int (0 : Int32))]) rfl rfl ⟨rfl, rfl, rfl, trivial⟩ ?_
  exact t_e_momentsHeld_10 N N x1 (0 : Int32) q1 _ _ h
set_option maxRecDepth 100000 in
theorem t_w_held {S : Nat × (Nat → Int32)} (N : Nat) (x1 : Int32) (M : Mem) (r : Int32) (M' : Mem) (h : f_w_held N x1 M = some (r, M')) : am_Y S 2 0 0 am_M64 0 [(0, .ref 5), (1, .int x1)] [] (hp M) (some (.int r)) (hp M') := by
  rw [f_w_held] at h
  refine am_Y.run (k := 4) (pc' := 8) (lv' := [(0, .ref 5), (1, .int x1)]) (st' := [.int x1, .ref 7]) (h' := hp M) rfl ?_
  refine am_Y.call0 (M' := am_M140) (as := [.ref 7, .int x1]) (rest := []) (d' := 1) rfl (by omega) rfl rfl (t_g_knows x1 M _ rfl) ?_
  refine am_Y.br (c := (f_g_knows x1 M) = (0 : Int32)) _ (t := 30) (u := 14) (lv' := [(0, .ref 5), (1, .int x1)]) (st' := []) (h' := hp M) rfl (fun hc => ?_) (fun hc => ?_)
  · replace h := (if_pos hc).symm.trans h
    refine am_Y.run (k := 1) (pc' := 31) (lv' := [(0, .ref 5), (1, .int x1)]) (st' := [.int (-1 : Int32)]) (h' := hp M) rfl ?_
    obtain ⟨rfl, rfl⟩ := Prod.mk.inj (Option.some.inj h)
    exact am_Y.ret rfl
  · replace h := (if_neg hc).symm.trans h
    refine am_Y.run (k := 6) (pc' := 24) (lv' := [(0, .ref 5), (1, .int x1)]) (st' := [.int ((1 : Int32) <<< (x1 &&& 31)), .ref 11]) (h' := hp M) rfl ?_
    obtain ⟨q1, e_q1, h⟩ := Option.bind_eq_some_iff.mp h
    refine am_Y.call0 (M' := am_M195) (as := [.ref 11, .int ((1 : Int32) <<< (x1 &&& 31))]) (rest := []) (d' := 1) rfl (by omega) rfl rfl (t_e_momentsHeld N ((1 : Int32) <<< (x1 &&& 31)) M q1.1 q1.2 e_q1) ?_
    refine am_Y.run (k := 1) (pc' := 31) (lv' := [(0, .ref 5), (1, .int x1)]) (st' := [.int q1.1]) (h' := hp q1.2) rfl ?_
    obtain ⟨rfl, rfl⟩ := Prod.mk.inj (Option.some.inj h)
    exact am_Y.ret rfl
set_option maxRecDepth 100000 in
theorem t_m_held_14 {S : Nat × (Nat → Int32)} (N : Nat) : ∀ (n : Nat) (x1 : Int32) (x2 : Int32) (x3 : Int32) (M : Mem) (r : Int32) (M' : Mem), f_m_held_14 N n x1 x2 x3 M = some (r, M') → am_Y S 2 0 0 am_M65 14 [(0, .ref 129), (1, .int x1), (2, .int x2), (3, .int x3)] [] (hp M) (some (.int r)) (hp M') := by
  intro n
  induction n with
  | zero =>
    intro x1 x2 x3 M r M' h
    cases h
  | succ n ih =>
    intro x1 x2 x3 M r M' h
    rw [f_m_held_14] at h
    refine am_Y.run (k := 5) (pc' := 21) (lv' := [(0, .ref 129), (1, .int x1), (2, .int x2), (3, .int x3)]) (st' := [.int (gi M 130 2), .int x3]) (h' := hp M) rfl ?_
    refine am_Y.br (c := (gi M 130 2) ≤ x3) _ (t := 42) (u := 24) (lv' := [(0, .ref 129), (1, .int x1), (2, .int x2), (3, .int x3)]) (st' := []) (h' := hp M) rfl (fun hc => ?_) (fun hc => ?_)
    · replace h := (if_pos hc).symm.trans h
      refine am_Y.run (k := 1) (pc' := 43) (lv' := [(0, .ref 129), (1, .int x1), (2, .int x2), (3, .int x3)]) (st' := [.int x2]) (h' := hp M) rfl ?_
      obtain ⟨rfl, rfl⟩ := Prod.mk.inj (Option.some.inj h)
      exact am_Y.ret rfl
    · replace h := (if_neg hc).symm.trans h
      refine am_Y.run (k := 3) (pc' := 27) (lv' := [(0, .ref 129), (1, .int x1), (2, .int x2), (3, .int x3)]) (st' := [.int x3, .ref 129, .int x2]) (h' := hp M) rfl ?_
      obtain ⟨q1, e_q1, h⟩ := Option.bind_eq_some_iff.mp h
      refine am_Y.call0 (M' := am_M196) (as := [.ref 129, .int x3]) (rest := [.int x2]) (d' := 1) rfl (by omega) rfl rfl (t_m_holdBy N x3 M q1.1 q1.2 e_q1) ?_
      refine am_Y.run (k := 8) (pc' := 14) (lv' := [(3, .int (x3 + (1 : Int32))), (2, .int (x2 + ((q1.1 >>> (x1 &&& 31)) &&& (1 : Int32)))), (0, .ref 129), (1, .int x1)]) (st' := []) (h' := hp q1.2) rfl ?_
      refine am_Y.weak (lv2 := [(0, .ref 129), (1, .int x1), (2, .int (x2 + ((q1.1 >>> (x1 &&& 31)) &&& (1 : Int32)))), (3, .int (x3 + (1 : Int32)))]) rfl rfl ⟨rfl, rfl, rfl, rfl, trivial⟩ ?_
      exact ih x1 (x2 + ((q1.1 >>> (x1 &&& 31)) &&& (1 : Int32))) (x3 + (1 : Int32)) q1.2 _ _ h
set_option maxRecDepth 100000 in
theorem t_m_held {S : Nat × (Nat → Int32)} (N : Nat) (x1 : Int32) (M : Mem) (r : Int32) (M' : Mem) (h : f_m_held N x1 M = some (r, M')) : am_Y S 2 0 0 am_M65 0 [(0, .ref 129), (1, .int x1)] [] (hp M) (some (.int r)) (hp M') := by
  rw [f_m_held] at h
  refine am_Y.run (k := 2) (pc' := 2) (lv' := [(0, .ref 129), (1, .int x1)]) (st' := [.int x1, .ref 129]) (h' := hp M) rfl ?_
  refine am_Y.call0 (M' := am_M115) (as := [.ref 129, .int x1]) (rest := []) (d' := 1) rfl (by omega) rfl rfl (t_m_isGuest x1 M _ rfl) ?_
  refine am_Y.br (c := (f_m_isGuest x1 M) = (0 : Int32)) _ (t := 8) (u := 10) (lv' := [(0, .ref 129), (1, .int x1)]) (st' := []) (h' := hp M) rfl (fun hc => ?_) (fun hc => ?_)
  · replace h := (if_pos hc).symm.trans h
    refine am_Y.run (k := 1) (pc' := 9) (lv' := [(0, .ref 129), (1, .int x1)]) (st' := [.int (-1 : Int32)]) (h' := hp M) rfl ?_
    obtain ⟨rfl, rfl⟩ := Prod.mk.inj (Option.some.inj h)
    exact am_Y.ret rfl
  · replace h := (if_neg hc).symm.trans h
    refine am_Y.run (k := 4) (pc' := 14) (lv' := [(3, .int (0 : Int32)), (2, .int (0 : Int32)), (0, .ref 129), (1, .int x1)]) (st' := []) (h' := hp M) rfl ?_
    refine am_Y.weak (lv2 := [(0, .ref 129), (1, .int x1), (2, .int (0 : Int32)), (3, .int (0 : Int32))]) rfl rfl ⟨rfl, rfl, rfl, rfl, trivial⟩ ?_
    exact t_m_held_14 N N x1 (0 : Int32) (0 : Int32) M _ _ h
set_option maxRecDepth 100000 in
theorem t_w_stays_34 {S : Nat × (Nat → Int32)} (N : Nat) : ∀ (n : Nat) (x1 : Int32) (x2 : Int32) (x3 : Int32) (x4 : Int32) (M : Mem) (r : Int32), f_w_stays_34 N n x1 x2 x3 x4 M = some r → am_Y S 2 0 0 am_M66 34 [(0, .ref 5), (1, .int x1), (2, .int x2), (3, .int x3), (4, .int x4)] [] (hp M) (some (.int r)) (hp M) := by
  intro n
  induction n with
  | zero =>
    intro x1 x2 x3 x4 M r h
    cases h
  | succ n ih =>
    intro x1 x2 x3 x4 M r h
    rw [f_w_stays_34] at h
    refine am_Y.run (k := 5) (pc' := 46) (lv' := [(0, .ref 5), (1, .int x1), (2, .int x2), (3, .int x3), (4, .int x4)]) (st' := [.int (gi M 7 3), .int x4]) (h' := hp M) rfl ?_
    refine am_Y.br (c := (gi M 7 3) ≤ x4) _ (t := 87) (u := 49) (lv' := [(0, .ref 5), (1, .int x1), (2, .int x2), (3, .int x3), (4, .int x4)]) (st' := []) (h' := hp M) rfl (fun hc => ?_) (fun hc => ?_)
    · replace h := (if_pos hc).symm.trans h
      refine am_Y.run (k := 1) (pc' := 88) (lv' := [(0, .ref 5), (1, .int x1), (2, .int x2), (3, .int x3), (4, .int x4)]) (st' := [.int x3]) (h' := hp M) rfl ?_
      obtain rfl := Option.some.inj h
      exact am_Y.ret rfl
    · replace h := (if_neg hc).symm.trans h
      refine am_Y.run (k := 5) (pc' := 61) (lv' := [(0, .ref 5), (1, .int x1), (2, .int x2), (3, .int x3), (4, .int x4)]) (st' := [.int x4, .ref 10]) (h' := hp M) rfl ?_
      obtain ⟨g, h⟩ := am_itg h
      refine am_Y.iald (a := 5) (n := 8) rfl rfl g ?_
      refine am_Y.run (k := 4) (pc' := 66) (lv' := [(0, .ref 5), (1, .int x1), (2, .int x2), (3, .int x3), (4, .int x4)]) (st' := [.int (x1 - (1 : Int32)), .int x2, .int (gi M 10 (x4).toNatClampNeg)]) (h' := hp M) rfl ?_
      refine am_Y.call0 (M' := am_M102) (as := [.int (gi M 10 (x4).toNatClampNeg), .int x2, .int (x1 - (1 : Int32))]) (rest := []) (d' := 0) rfl (by omega) rfl rfl (t_w_within (gi M 10 (x4).toNatClampNeg) x2 (x1 - (1 : Int32)) M _ rfl) ?_
      refine am_Y.br (c := (f_w_within (gi M 10 (x4).toNatClampNeg) x2 (x1 - (1 : Int32)) M) = (0 : Int32)) _ (t := 81) (u := 72) (lv' := [(0, .ref 5), (1, .int x1), (2, .int x2), (3, .int x3), (4, .int x4)]) (st' := []) (h' := hp M) rfl (fun hc => ?_) (fun hc => ?_)
      · replace h := (if_pos hc).symm.trans h
        refine am_Y.run (k := 2) (pc' := 34) (lv' := [(4, .int (x4 + (1 : Int32))), (0, .ref 5), (1, .int x1), (2, .int x2), (3, .int x3)]) (st' := []) (h' := hp M) rfl ?_
        refine am_Y.weak (lv2 := [(0, .ref 5), (1, .int x1), (2, .int x2), (3, .int x3), (4, .int (x4 + (1 : Int32)))]) rfl rfl ⟨rfl, rfl, rfl, rfl, rfl, trivial⟩ ?_
        exact ih x1 x2 x3 (x4 + (1 : Int32)) M _ h
      · replace h := (if_neg hc).symm.trans h
        refine am_Y.run (k := 10) (pc' := 34) (lv' := [(4, .int (x4 + (1 : Int32))), (3, .int (x3 &&& (((1 : Int32) <<< (x4 &&& 31)) ^^^ (-1 : Int32)))), (0, .ref 5), (1, .int x1), (2, .int x2)]) (st' := []) (h' := hp M) rfl ?_
        refine am_Y.weak (lv2 := [(0, .ref 5), (1, .int x1), (2, .int x2), (3, .int (x3 &&& (((1 : Int32) <<< (x4 &&& 31)) ^^^ (-1 : Int32)))), (4, .int (x4 + (1 : Int32)))]) rfl rfl ⟨rfl, rfl, rfl, rfl, rfl, trivial⟩ ?_
        exact ih x1 x2 (x3 &&& (((1 : Int32) <<< (x4 &&& 31)) ^^^ (-1 : Int32))) (x4 + (1 : Int32)) M _ h
set_option maxRecDepth 100000 in
theorem t_w_stays {S : Nat × (Nat → Int32)} (N : Nat) (x1 : Int32) (M : Mem) (r : Int32) (h : f_w_stays N x1 M = some r) : am_Y S 2 0 0 am_M66 0 [(0, .ref 5), (1, .int x1)] [] (hp M) (some (.int r)) (hp M) := by
  rw [f_w_stays] at h
  refine am_Y.run (k := 3) (pc' := 7) (lv' := [(0, .ref 5), (1, .int x1)]) (st' := [.ref 11]) (h' := hp M) rfl ?_
  refine am_Y.call0 (M' := am_M121) (as := [.ref 11]) (rest := []) (d' := 0) rfl (by omega) rfl rfl (t_e_moment M _ rfl) ?_
  refine am_Y.run (k := 4) (pc' := 15) (lv' := [(2, .int (f_e_moment M)), (0, .ref 5), (1, .int x1)]) (st' := [.int (99 : Int32), .int (f_e_moment M), .int x1]) (h' := hp M) rfl ?_
  refine am_Y.call0 (M' := am_M102) (as := [.int x1, .int (f_e_moment M), .int (99 : Int32)]) (rest := []) (d' := 0) rfl (by omega) rfl rfl (t_w_within x1 (f_e_moment M) (99 : Int32) M _ rfl) ?_
  refine am_Y.br (c := (f_w_within x1 (f_e_moment M) (99 : Int32) M) = (0 : Int32)) _ (t := 21) (u := 23) (lv' := [(2, .int (f_e_moment M)), (0, .ref 5), (1, .int x1)]) (st' := []) (h' := hp M) rfl (fun hc => ?_) (fun hc => ?_)
  · replace h := (if_pos hc).symm.trans h
    refine am_Y.run (k := 1) (pc' := 22) (lv' := [(2, .int (f_e_moment M)), (0, .ref 5), (1, .int x1)]) (st' := [.int (-1 : Int32)]) (h' := hp M) rfl ?_
    obtain rfl := Option.some.inj h
    exact am_Y.ret rfl
  · replace h := (if_neg hc).symm.trans h
    refine am_Y.run (k := 2) (pc' := 27) (lv' := [(2, .int (f_e_moment M)), (0, .ref 5), (1, .int x1)]) (st' := [.ref 6]) (h' := hp M) rfl ?_
    refine am_Y.call0 (M' := am_M197) (as := [.ref 6]) (rest := []) (d' := 1) rfl (by omega) rfl rfl (t_t_there M _ rfl) ?_
    refine am_Y.run (k := 3) (pc' := 34) (lv' := [(4, .int (0 : Int32)), (3, .int (f_t_there M)), (2, .int (f_e_moment M)), (0, .ref 5), (1, .int x1)]) (st' := []) (h' := hp M) rfl ?_
    refine am_Y.weak (lv2 := [(0, .ref 5), (1, .int x1), (2, .int (f_e_moment M)), (3, .int (f_t_there M)), (4, .int (0 : Int32))]) rfl rfl ⟨rfl, rfl, rfl, rfl, rfl, trivial⟩ ?_
    exact t_w_stays_34 N N x1 (f_e_moment M) (f_t_there M) (0 : Int32) M _ h
set_option maxRecDepth 100000 in
theorem t_m_stays_21 {S : Nat × (Nat → Int32)} (N : Nat) : ∀ (n : Nat) (x1 : Int32) (x2 : Int32) (x3 : Int32) (M : Mem) (r : Int32), f_m_stays_21 N n x1 x2 x3 M = some r → am_Y S 2 0 0 am_M67 21 [(0, .ref 129), (1, .int x1), (2, .int x2), (3, .int x3)] [] (hp M) (some (.int r)) (hp M) := by
  intro n
  induction n with
  | zero =>
    intro x1 x2 x3 M r h
    cases h
  | succ n ih =>
    intro x1 x2 x3 M r h
    rw [f_m_stays_21] at h
    refine am_Y.run (k := 5) (pc' := 28) (lv' := [(0, .ref 129), (1, .int x1), (2, .int x2), (3, .int x3)]) (st' := [.int (gi M 130 0), .int x3]) (h' := hp M) rfl ?_
    refine am_Y.br (c := (gi M 130 0) ≤ x3) _ (t := 76) (u := 31) (lv' := [(0, .ref 129), (1, .int x1), (2, .int x2), (3, .int x3)]) (st' := []) (h' := hp M) rfl (fun hc => ?_) (fun hc => ?_)
    · replace h := (if_pos hc).symm.trans h
      refine am_Y.run (k := 1) (pc' := 77) (lv' := [(0, .ref 129), (1, .int x1), (2, .int x2), (3, .int x3)]) (st' := [.int x2]) (h' := hp M) rfl ?_
      obtain rfl := Option.some.inj h
      exact am_Y.ret rfl
    · replace h := (if_neg hc).symm.trans h
      refine am_Y.run (k := 3) (pc' := 34) (lv' := [(0, .ref 129), (1, .int x1), (2, .int x2), (3, .int x3)]) (st' := [.int x3, .ref 129, .int x2]) (h' := hp M) rfl ?_
      obtain ⟨q1, e_q1, h⟩ := Option.bind_eq_some_iff.mp h
      refine am_Y.call0 (M' := am_M128) (as := [.ref 129, .int x3]) (rest := [.int x2]) (d' := 1) rfl (by omega) rfl rfl (t_m_isThere x3 M q1 e_q1) ?_
      refine am_Y.br (c := q1 = (0 : Int32)) _ (t := 67) (u := 40) (lv' := [(0, .ref 129), (1, .int x1), (2, .int x2), (3, .int x3)]) (st' := [.int x2]) (h' := hp M) rfl (fun hc => ?_) (fun hc => ?_)
      · replace h := (if_pos hc).symm.trans h
        refine am_Y.run (k := 5) (pc' := 21) (lv' := [(3, .int (x3 + (1 : Int32))), (2, .int (x2 ||| (0 : Int32))), (0, .ref 129), (1, .int x1)]) (st' := []) (h' := hp M) rfl ?_
        refine am_Y.weak (lv2 := [(0, .ref 129), (1, .int x1), (2, .int (x2 ||| (0 : Int32))), (3, .int (x3 + (1 : Int32)))]) rfl rfl ⟨rfl, rfl, rfl, rfl, trivial⟩ ?_
        exact ih x1 (x2 ||| (0 : Int32)) (x3 + (1 : Int32)) M _ h
      · replace h := (if_neg hc).symm.trans h
        refine am_Y.run (k := 3) (pc' := 43) (lv' := [(0, .ref 129), (1, .int x1), (2, .int x2), (3, .int x3)]) (st' := [.int (2 : Int32), .int x3, .ref 129, .int x2]) (h' := hp M) rfl ?_
        obtain ⟨q2, e_q2, h⟩ := Option.bind_eq_some_iff.mp h
        refine am_Y.call0 (M' := am_M146) (as := [.ref 129, .int x3, .int (2 : Int32)]) (rest := [.int x2]) (d' := 0) rfl (by omega) rfl rfl (t_m_get x3 (2 : Int32) M q2 e_q2) ?_
        refine am_Y.run (k := 7) (pc' := 55) (lv' := [(0, .ref 129), (1, .int x1), (2, .int x2), (3, .int x3)]) (st' := [.int (x1 - (1 : Int32)), .int (gi M 130 2), .int q2, .int x2]) (h' := hp M) rfl ?_
        refine am_Y.call0 (M' := am_M104) (as := [.int q2, .int (gi M 130 2), .int (x1 - (1 : Int32))]) (rest := [.int x2]) (d' := 0) rfl (by omega) rfl rfl (t_m_isIn q2 (gi M 130 2) (x1 - (1 : Int32)) M _ rfl) ?_
        refine am_Y.br (c := (f_m_isIn q2 (gi M 130 2) (x1 - (1 : Int32)) M) = (0 : Int32)) _ (t := 61) (u := 67) (lv' := [(0, .ref 129), (1, .int x1), (2, .int x2), (3, .int x3)]) (st' := [.int x2]) (h' := hp M) rfl (fun hc => ?_) (fun hc => ?_)
        · replace h := (if_pos hc).symm.trans h
          refine am_Y.run (k := 8) (pc' := 21) (lv' := [(3, .int (x3 + (1 : Int32))), (2, .int (x2 ||| ((1 : Int32) <<< (x3 &&& 31)))), (0, .ref 129), (1, .int x1)]) (st' := []) (h' := hp M) rfl ?_
          refine am_Y.weak (lv2 := [(0, .ref 129), (1, .int x1), (2, .int (x2 ||| ((1 : Int32) <<< (x3 &&& 31)))), (3, .int (x3 + (1 : Int32)))]) rfl rfl ⟨rfl, rfl, rfl, rfl, trivial⟩ ?_
          exact ih x1 (x2 ||| ((1 : Int32) <<< (x3 &&& 31))) (x3 + (1 : Int32)) M _ h
        · replace h := (if_neg hc).symm.trans h
          refine am_Y.run (k := 5) (pc' := 21) (lv' := [(3, .int (x3 + (1 : Int32))), (2, .int (x2 ||| (0 : Int32))), (0, .ref 129), (1, .int x1)]) (st' := []) (h' := hp M) rfl ?_
          refine am_Y.weak (lv2 := [(0, .ref 129), (1, .int x1), (2, .int (x2 ||| (0 : Int32))), (3, .int (x3 + (1 : Int32)))]) rfl rfl ⟨rfl, rfl, rfl, rfl, trivial⟩ ?_
          exact ih x1 (x2 ||| (0 : Int32)) (x3 + (1 : Int32)) M _ h
set_option maxRecDepth 100000 in
theorem t_m_stays {S : Nat × (Nat → Int32)} (N : Nat) (x1 : Int32) (M : Mem) (r : Int32) (h : f_m_stays N x1 M = some r) : am_Y S 2 0 0 am_M67 0 [(0, .ref 129), (1, .int x1)] [] (hp M) (some (.int r)) (hp M) := by
  rw [f_m_stays] at h
  refine am_Y.run (k := 6) (pc' := 9) (lv' := [(0, .ref 129), (1, .int x1)]) (st' := [.int (99 : Int32), .int (gi M 130 2), .int x1]) (h' := hp M) rfl ?_
  refine am_Y.call0 (M' := am_M104) (as := [.int x1, .int (gi M 130 2), .int (99 : Int32)]) (rest := []) (d' := 0) rfl (by omega) rfl rfl (t_m_isIn x1 (gi M 130 2) (99 : Int32) M _ rfl) ?_
  refine am_Y.br (c := (f_m_isIn x1 (gi M 130 2) (99 : Int32) M) = (0 : Int32)) _ (t := 15) (u := 17) (lv' := [(0, .ref 129), (1, .int x1)]) (st' := []) (h' := hp M) rfl (fun hc => ?_) (fun hc => ?_)
  · replace h := (if_pos hc).symm.trans h
    refine am_Y.run (k := 1) (pc' := 16) (lv' := [(0, .ref 129), (1, .int x1)]) (st' := [.int (-1 : Int32)]) (h' := hp M) rfl ?_
    obtain rfl := Option.some.inj h
    exact am_Y.ret rfl
  · replace h := (if_neg hc).symm.trans h
    refine am_Y.run (k := 4) (pc' := 21) (lv' := [(3, .int (0 : Int32)), (2, .int (0 : Int32)), (0, .ref 129), (1, .int x1)]) (st' := []) (h' := hp M) rfl ?_
    refine am_Y.weak (lv2 := [(0, .ref 129), (1, .int x1), (2, .int (0 : Int32)), (3, .int (0 : Int32))]) rfl rfl ⟨rfl, rfl, rfl, rfl, trivial⟩ ?_
    exact t_m_stays_21 N N x1 (0 : Int32) (0 : Int32) M _ h
set_option maxRecDepth 100000 in
theorem t_w_countToasts_2 {S : Nat × (Nat → Int32)} (N : Nat) : ∀ (n : Nat) (x1 : Int32) (M : Mem) (M' : Mem), f_w_countToasts_2 N n x1 M = some M' → am_Y S 2 0 0 am_M198 2 [(0, .ref 5), (1, .int x1)] [] (hp M) none (hp M') := by
  intro n
  induction n with
  | zero =>
    intro x1 M M' h
    cases h
  | succ n ih =>
    intro x1 M M' h
    rw [f_w_countToasts_2] at h
    refine am_Y.run (k := 2) (pc' := 5) (lv' := [(0, .ref 5), (1, .int x1)]) (st' := [.int (8 : Int32), .int x1]) (h' := hp M) rfl ?_
    refine am_Y.br (c := (8 : Int32) ≤ x1) _ (t := 32) (u := 8) (lv' := [(0, .ref 5), (1, .int x1)]) (st' := []) (h' := hp M) rfl (fun hc => ?_) (fun hc => ?_)
    · replace h := (if_pos hc).symm.trans h
      obtain rfl := Option.some.inj h
      exact am_Y.ret rfl
    · replace h := (if_neg hc).symm.trans h
      refine am_Y.run (k := 8) (pc' := 22) (lv' := [(0, .ref 5), (1, .int x1)]) (st' := [.int (2 : Int32), .int x1, .ref 11, .int x1, .ref 112]) (h' := hp M) rfl ?_
      obtain ⟨q1, e_q1, h⟩ := Option.bind_eq_some_iff.mp h
      refine am_Y.call0 (M' := am_M142) (as := [.ref 11, .int x1, .int (2 : Int32)]) (rest := [.int x1, .ref 112]) (d' := 1) rfl (by omega) rfl rfl (t_e_countOf N x1 (2 : Int32) M q1 e_q1) ?_
      obtain ⟨g, h⟩ := am_itg h
      refine am_Y.iast (a := 107) (n := 8) rfl rfl g ?_
      refine am_Y.run (k := 0) (pc' := _) (lv' := [(0, .ref 5), (1, .int x1)]) (st' := []) (h' := hp (si M 112 (x1).toNatClampNeg q1)) rfl ?_
      obtain ⟨q2, e_q2, h⟩ := Option.bind_eq_some_iff.mp h
      rw [Option.some.inj e_q2]
      refine am_Y.run (k := 2) (pc' := 2) (lv' := [(1, .int (x1 + (1 : Int32))), (0, .ref 5)]) (st' := []) (h' := hp q2) rfl ?_
      refine am_Y.weak (lv2 := [(0, .ref 5), (1, .int (x1 + (1 : Int32)))]) rfl rfl ⟨rfl, rfl, trivial⟩ ?_
      exact ih (x1 + (1 : Int32)) q2 _ h
set_option maxRecDepth 100000 in
theorem t_w_countToasts {S : Nat × (Nat → Int32)} (N : Nat) (M : Mem) (M' : Mem) (h : f_w_countToasts N M = some M') : am_Y S 2 0 0 am_M198 0 [(0, .ref 5)] [] (hp M) none (hp M') := by
  rw [f_w_countToasts] at h
  refine am_Y.run (k := 2) (pc' := 2) (lv' := [(1, .int (0 : Int32)), (0, .ref 5)]) (st' := []) (h' := hp M) rfl ?_
  refine am_Y.weak (lv2 := [(0, .ref 5), (1, .int (0 : Int32))]) rfl rfl ⟨rfl, rfl, trivial⟩ ?_
  exact t_w_countToasts_2 N N (0 : Int32) M _ h
set_option maxRecDepth 100000 in
theorem t_w_nextByToasts_15 {S : Nat × (Nat → Int32)} (N : Nat) : ∀ (n : Nat) (x2 : Int32) (x3 : Int32) (M : Mem) (r : Int32), f_w_nextByToasts_15 N n x2 x3 M = some r → am_Y S 3 0 0 am_M199 15 [(0, .ref 5), (1, .ref 8), (2, .int x2), (3, .int x3)] [] (hp M) (some (.int r)) (hp M) := by
  intro n
  induction n with
  | zero =>
    intro x2 x3 M r h
    cases h
  | succ n ih =>
    intro x2 x3 M r h
    rw [f_w_nextByToasts_15] at h
    refine am_Y.run (k := 5) (pc' := 26) (lv' := [(0, .ref 5), (1, .ref 8), (2, .int x2), (3, .int x3)]) (st' := [.int (gi M 7 3), .int x3]) (h' := hp M) rfl ?_
    refine am_Y.br (c := (gi M 7 3) ≤ x3) _ (t := 91) (u := 29) (lv' := [(0, .ref 5), (1, .ref 8), (2, .int x2), (3, .int x3)]) (st' := []) (h' := hp M) rfl (fun hc => ?_) (fun hc => ?_)
    · replace h := (if_pos hc).symm.trans h
      refine am_Y.run (k := 1) (pc' := 92) (lv' := [(0, .ref 5), (1, .ref 8), (2, .int x2), (3, .int x3)]) (st' := [.int x2]) (h' := hp M) rfl ?_
      obtain rfl := Option.some.inj h
      exact am_Y.ret rfl
    · replace h := (if_neg hc).symm.trans h
      refine am_Y.run (k := 3) (pc' := 34) (lv' := [(0, .ref 5), (1, .ref 8), (2, .int x2), (3, .int x3)]) (st' := [.int x3, .ref 6]) (h' := hp M) rfl ?_
      refine am_Y.call0 (M' := am_M126) (as := [.ref 6, .int x3]) (rest := []) (d' := 2) rfl (by omega) rfl rfl (t_t_isThere x3 M _ rfl) ?_
      refine am_Y.br (c := (f_t_isThere x3 M) = (0 : Int32)) _ (t := 85) (u := 40) (lv' := [(0, .ref 5), (1, .ref 8), (2, .int x2), (3, .int x3)]) (st' := []) (h' := hp M) rfl (fun hc => ?_) (fun hc => ?_)
      · replace h := (if_pos hc).symm.trans h
        refine am_Y.run (k := 2) (pc' := 15) (lv' := [(3, .int (x3 + (1 : Int32))), (0, .ref 5), (1, .ref 8), (2, .int x2)]) (st' := []) (h' := hp M) rfl ?_
        refine am_Y.weak (lv2 := [(0, .ref 5), (1, .ref 8), (2, .int x2), (3, .int (x3 + (1 : Int32)))]) rfl rfl ⟨rfl, rfl, rfl, rfl, trivial⟩ ?_
        exact ih x2 (x3 + (1 : Int32)) M _ h
      · replace h := (if_neg hc).symm.trans h
        refine am_Y.run (k := 1) (pc' := 41) (lv' := [(0, .ref 5), (1, .ref 8), (2, .int x2), (3, .int x3)]) (st' := [.int x2]) (h' := hp M) rfl ?_
        refine am_Y.br (c := x2 < (0 : Int32)) _ (t := 83) (u := 44) (lv' := [(0, .ref 5), (1, .ref 8), (2, .int x2), (3, .int x3)]) (st' := []) (h' := hp M) rfl (fun hc => ?_) (fun hc => ?_)
        · replace h := (if_pos hc).symm.trans h
          refine am_Y.run (k := 4) (pc' := 15) (lv' := [(3, .int (x3 + (1 : Int32))), (2, .int x3), (0, .ref 5), (1, .ref 8)]) (st' := []) (h' := hp M) rfl ?_
          refine am_Y.weak (lv2 := [(0, .ref 5), (1, .ref 8), (2, .int x3), (3, .int (x3 + (1 : Int32)))]) rfl rfl ⟨rfl, rfl, rfl, rfl, trivial⟩ ?_
          exact ih x3 (x3 + (1 : Int32)) M _ h
        · replace h := (if_neg hc).symm.trans h
          refine am_Y.run (k := 3) (pc' := 49) (lv' := [(0, .ref 5), (1, .ref 8), (2, .int x2), (3, .int x3)]) (st' := [.int x3, .ref 112]) (h' := hp M) rfl ?_
          obtain ⟨g, h⟩ := am_itg h
          refine am_Y.iald (a := 107) (n := 8) rfl rfl g ?_
          refine am_Y.run (k := 3) (pc' := 55) (lv' := [(0, .ref 5), (1, .ref 8), (2, .int x2), (3, .int x3)]) (st' := [.int x2, .ref 112, .int (gi M 112 (x3).toNatClampNeg)]) (h' := hp M) rfl ?_
          obtain ⟨g, h⟩ := am_itg h
          refine am_Y.iald (a := 107) (n := 8) rfl rfl g ?_
          refine am_Y.br (c := (gi M 112 (x3).toNatClampNeg) < (gi M 112 (x2).toNatClampNeg)) _ (t := 83) (u := 59) (lv' := [(0, .ref 5), (1, .ref 8), (2, .int x2), (3, .int x3)]) (st' := []) (h' := hp M) rfl (fun hc => ?_) (fun hc => ?_)
          · replace h := (if_pos hc).symm.trans h
            refine am_Y.run (k := 4) (pc' := 15) (lv' := [(3, .int (x3 + (1 : Int32))), (2, .int x3), (0, .ref 5), (1, .ref 8)]) (st' := []) (h' := hp M) rfl ?_
            refine am_Y.weak (lv2 := [(0, .ref 5), (1, .ref 8), (2, .int x3), (3, .int (x3 + (1 : Int32)))]) rfl rfl ⟨rfl, rfl, rfl, rfl, trivial⟩ ?_
            exact ih x3 (x3 + (1 : Int32)) M _ h
          · replace h := (if_neg hc).symm.trans h
            refine am_Y.run (k := 3) (pc' := 64) (lv' := [(0, .ref 5), (1, .ref 8), (2, .int x2), (3, .int x3)]) (st' := [.int x3, .ref 112]) (h' := hp M) rfl ?_
            obtain ⟨g, h⟩ := am_itg h
            refine am_Y.iald (a := 107) (n := 8) rfl rfl g ?_
            refine am_Y.run (k := 3) (pc' := 70) (lv' := [(0, .ref 5), (1, .ref 8), (2, .int x2), (3, .int x3)]) (st' := [.int x2, .ref 112, .int (gi M 112 (x3).toNatClampNeg)]) (h' := hp M) rfl ?_
            obtain ⟨g, h⟩ := am_itg h
            refine am_Y.iald (a := 107) (n := 8) rfl rfl g ?_
            refine am_Y.br (c := (gi M 112 (x3).toNatClampNeg) = (gi M 112 (x2).toNatClampNeg)) _ (t := 74) (u := 85) (lv' := [(0, .ref 5), (1, .ref 8), (2, .int x2), (3, .int x3)]) (st' := []) (h' := hp M) rfl (fun hc => ?_) (fun hc => ?_)
            · replace h := (if_pos hc).symm.trans h
              refine am_Y.run (k := 2) (pc' := 76) (lv' := [(0, .ref 5), (1, .ref 8), (2, .int x2), (3, .int x3)]) (st' := [.int x3, .ref 8]) (h' := hp M) rfl ?_
              obtain ⟨g, h⟩ := am_itg h
              refine am_Y.iald (a := 3) (n := 8) rfl rfl g ?_
              refine am_Y.run (k := 2) (pc' := 79) (lv' := [(0, .ref 5), (1, .ref 8), (2, .int x2), (3, .int x3)]) (st' := [.int x2, .ref 8, .int (gi M 8 (x3).toNatClampNeg)]) (h' := hp M) rfl ?_
              obtain ⟨g, h⟩ := am_itg h
              refine am_Y.iald (a := 3) (n := 8) rfl rfl g ?_
              refine am_Y.br (c := (gi M 8 (x3).toNatClampNeg) ≤ (gi M 8 (x2).toNatClampNeg)) _ (t := 85) (u := 83) (lv' := [(0, .ref 5), (1, .ref 8), (2, .int x2), (3, .int x3)]) (st' := []) (h' := hp M) rfl (fun hc => ?_) (fun hc => ?_)
              · replace h := (if_pos hc).symm.trans h
                refine am_Y.run (k := 2) (pc' := 15) (lv' := [(3, .int (x3 + (1 : Int32))), (0, .ref 5), (1, .ref 8), (2, .int x2)]) (st' := []) (h' := hp M) rfl ?_
                refine am_Y.weak (lv2 := [(0, .ref 5), (1, .ref 8), (2, .int x2), (3, .int (x3 + (1 : Int32)))]) rfl rfl ⟨rfl, rfl, rfl, rfl, trivial⟩ ?_
                exact ih x2 (x3 + (1 : Int32)) M _ h
              · replace h := (if_neg hc).symm.trans h
                refine am_Y.run (k := 4) (pc' := 15) (lv' := [(3, .int (x3 + (1 : Int32))), (2, .int x3), (0, .ref 5), (1, .ref 8)]) (st' := []) (h' := hp M) rfl ?_
                refine am_Y.weak (lv2 := [(0, .ref 5), (1, .ref 8), (2, .int x3), (3, .int (x3 + (1 : Int32)))]) rfl rfl ⟨rfl, rfl, rfl, rfl, trivial⟩ ?_
                exact ih x3 (x3 + (1 : Int32)) M _ h
            · replace h := (if_neg hc).symm.trans h
              refine am_Y.run (k := 2) (pc' := 15) (lv' := [(3, .int (x3 + (1 : Int32))), (0, .ref 5), (1, .ref 8), (2, .int x2)]) (st' := []) (h' := hp M) rfl ?_
              refine am_Y.weak (lv2 := [(0, .ref 5), (1, .ref 8), (2, .int x2), (3, .int (x3 + (1 : Int32)))]) rfl rfl ⟨rfl, rfl, rfl, rfl, trivial⟩ ?_
              exact ih x2 (x3 + (1 : Int32)) M _ h
set_option maxRecDepth 100000 in
theorem t_w_nextByToasts {S : Nat × (Nat → Int32)} (N : Nat) (M : Mem) (r : Int32) (h : f_w_nextByToasts N M = some r) : am_Y S 3 0 0 am_M199 0 [(0, .ref 5)] [] (hp M) (some (.int r)) (hp M) := by
  rw [f_w_nextByToasts] at h
  refine am_Y.run (k := 9) (pc' := 15) (lv' := [(3, .int (0 : Int32)), (2, .int (-1 : Int32)), (1, .ref 8), (0, .ref 5)]) (st' := []) (h' := hp M) rfl ?_
  refine am_Y.weak (lv2 := [(0, .ref 5), (1, .ref 8), (2, .int (-1 : Int32)), (3, .int (0 : Int32))]) rfl rfl ⟨rfl, rfl, rfl, rfl, trivial⟩ ?_
  exact t_w_nextByToasts_15 N N (-1 : Int32) (0 : Int32) M _ h
set_option maxRecDepth 100000 in
theorem t_w_round_29 {S : Nat × (Nat → Int32)} (N : Nat) : ∀ (n : Nat) (x2 : Int32) (x3 : Int32) (M : Mem) (r : Int32) (M' : Mem), f_w_round_29 N n x2 x3 M = some (r, M') → am_Y S 4 0 0 am_M68 29 [(0, .ref 5), (2, .int x2), (3, .int x3)] [] (hp M) (some (.int r)) (hp M') := by
  intro n
  induction n with
  | zero =>
    intro x2 x3 M r M' h
    cases h
  | succ n ih =>
    intro x2 x3 M r M' h
    rw [f_w_round_29] at h
    refine am_Y.run (k := 2) (pc' := 31) (lv' := [(0, .ref 5), (2, .int x2), (3, .int x3)]) (st' := [.int x2, .int x3]) (h' := hp M) rfl ?_
    refine am_Y.br (c := x2 ≤ x3) _ (t := 74) (u := 34) (lv' := [(0, .ref 5), (2, .int x2), (3, .int x3)]) (st' := []) (h' := hp M) rfl (fun hc => ?_) (fun hc => ?_)
    · replace h := (if_pos hc).symm.trans h
      refine am_Y.run (k := 1) (pc' := 75) (lv' := [(0, .ref 5), (2, .int x2), (3, .int x3)]) (st' := [.ref 5]) (h' := hp M) rfl ?_
      obtain ⟨q2, e_q2, h⟩ := Option.bind_eq_some_iff.mp h
      refine am_Y.call0 (M' := am_M199) (as := [.ref 5]) (rest := []) (d' := 3) rfl (by omega) rfl rfl (t_w_nextByToasts N M q2 e_q2) ?_
      obtain ⟨rfl, rfl⟩ := Prod.mk.inj (Option.some.inj h)
      exact am_Y.ret rfl
    · replace h := (if_neg hc).symm.trans h
      refine am_Y.run (k := 1) (pc' := 35) (lv' := [(0, .ref 5), (2, .int x2), (3, .int x3)]) (st' := [.ref 5]) (h' := hp M) rfl ?_
      obtain ⟨q3, e_q3, h⟩ := Option.bind_eq_some_iff.mp h
      refine am_Y.call0 (M' := am_M199) (as := [.ref 5]) (rest := []) (d' := 3) rfl (by omega) rfl rfl (t_w_nextByToasts N M q3 e_q3) ?_
      refine am_Y.run (k := 5) (pc' := 49) (lv' := [(4, .int q3), (0, .ref 5), (2, .int x2), (3, .int x3)]) (st' := [.int q3, .ref 7]) (h' := hp M) rfl ?_
      refine am_Y.call0 (M' := am_M140) (as := [.ref 7, .int q3]) (rest := []) (d' := 1) rfl (by omega) rfl rfl (t_g_knows q3 M _ rfl) ?_
      refine am_Y.br (c := (f_g_knows q3 M) = (0 : Int32)) _ (t := 55) (u := 57) (lv' := [(4, .int q3), (0, .ref 5), (2, .int x2), (3, .int x3)]) (st' := []) (h' := hp M) rfl (fun hc => ?_) (fun hc => ?_)
      · replace h := (if_pos hc).symm.trans h
        refine am_Y.run (k := 1) (pc' := 56) (lv' := [(4, .int q3), (0, .ref 5), (2, .int x2), (3, .int x3)]) (st' := [.int (-1 : Int32)]) (h' := hp M) rfl ?_
        obtain ⟨rfl, rfl⟩ := Prod.mk.inj (Option.some.inj h)
        exact am_Y.ret rfl
      · replace h := (if_neg hc).symm.trans h
        refine am_Y.run (k := 4) (pc' := 64) (lv' := [(4, .int q3), (0, .ref 5), (2, .int x2), (3, .int x3)]) (st' := [.int q3, .ref 112, .int q3, .ref 112]) (h' := hp M) rfl ?_
        obtain ⟨g, h⟩ := am_itg h
        refine am_Y.iald (a := 107) (n := 8) rfl rfl g ?_
        refine am_Y.run (k := 2) (pc' := 67) (lv' := [(4, .int q3), (0, .ref 5), (2, .int x2), (3, .int x3)]) (st' := [.int ((gi M 112 (q3).toNatClampNeg) + (1 : Int32)), .int q3, .ref 112]) (h' := hp M) rfl ?_
        obtain ⟨g, h⟩ := am_itg h
        refine am_Y.iast (a := 107) (n := 8) rfl rfl g ?_
        refine am_Y.run (k := 0) (pc' := _) (lv' := [(4, .int q3), (0, .ref 5), (2, .int x2), (3, .int x3)]) (st' := []) (h' := hp (si M 112 (q3).toNatClampNeg ((gi M 112 (q3).toNatClampNeg) + (1 : Int32)))) rfl ?_
        obtain ⟨q4, e_q4, h⟩ := Option.bind_eq_some_iff.mp h
        rw [Option.some.inj e_q4]
        refine am_Y.run (k := 2) (pc' := 29) (lv' := [(3, .int (x3 + (1 : Int32))), (4, .int q3), (0, .ref 5), (2, .int x2)]) (st' := []) (h' := hp q4) rfl ?_
        refine am_Y.weak (lv2 := [(0, .ref 5), (2, .int x2), (3, .int (x3 + (1 : Int32)))]) rfl rfl ⟨rfl, rfl, rfl, trivial⟩ ?_
        exact ih x2 (x3 + (1 : Int32)) q4 _ _ h
set_option maxRecDepth 100000 in
theorem t_w_round {S : Nat × (Nat → Int32)} (N : Nat) (x1 : Int32) (x2 : Int32) (M : Mem) (r : Int32) (M' : Mem) (h : f_w_round N x1 x2 M = some (r, M')) : am_Y S 4 0 0 am_M68 0 [(0, .ref 5), (1, .int x1), (2, .int x2)] [] (hp M) (some (.int r)) (hp M') := by
  rw [f_w_round] at h
  refine am_Y.run (k := 3) (pc' := 4) (lv' := [(0, .ref 5), (1, .int x1), (2, .int x2)]) (st' := [.int (20 : Int32), .int (1 : Int32), .int x1]) (h' := hp M) rfl ?_
  refine am_Y.call0 (M' := am_M102) (as := [.int x1, .int (1 : Int32), .int (20 : Int32)]) (rest := []) (d' := 0) rfl (by omega) rfl rfl (t_w_within x1 (1 : Int32) (20 : Int32) M _ rfl) ?_
  refine am_Y.br (c := (f_w_within x1 (1 : Int32) (20 : Int32) M) = (0 : Int32)) _ (t := 21) (u := 10) (lv' := [(0, .ref 5), (1, .int x1), (2, .int x2)]) (st' := []) (h' := hp M) rfl (fun hc => ?_) (fun hc => ?_)
  · replace h := (if_pos hc).symm.trans h
    refine am_Y.run (k := 1) (pc' := 22) (lv' := [(0, .ref 5), (1, .int x1), (2, .int x2)]) (st' := [.int (-1 : Int32)]) (h' := hp M) rfl ?_
    obtain ⟨rfl, rfl⟩ := Prod.mk.inj (Option.some.inj h)
    exact am_Y.ret rfl
  · replace h := (if_neg hc).symm.trans h
    refine am_Y.run (k := 5) (pc' := 15) (lv' := [(0, .ref 5), (1, .int x1), (2, .int x2)]) (st' := [.int (x1 - (1 : Int32)), .int (0 : Int32), .int x2]) (h' := hp M) rfl ?_
    refine am_Y.call0 (M' := am_M102) (as := [.int x2, .int (0 : Int32), .int (x1 - (1 : Int32))]) (rest := []) (d' := 0) rfl (by omega) rfl rfl (t_w_within x2 (0 : Int32) (x1 - (1 : Int32)) M _ rfl) ?_
    refine am_Y.br (c := (f_w_within x2 (0 : Int32) (x1 - (1 : Int32)) M) = (0 : Int32)) _ (t := 21) (u := 23) (lv' := [(0, .ref 5), (1, .int x1), (2, .int x2)]) (st' := []) (h' := hp M) rfl (fun hc => ?_) (fun hc => ?_)
    · replace h := (if_pos hc).symm.trans h
      refine am_Y.run (k := 1) (pc' := 22) (lv' := [(0, .ref 5), (1, .int x1), (2, .int x2)]) (st' := [.int (-1 : Int32)]) (h' := hp M) rfl ?_
      obtain ⟨rfl, rfl⟩ := Prod.mk.inj (Option.some.inj h)
      exact am_Y.ret rfl
    · replace h := (if_neg hc).symm.trans h
      refine am_Y.run (k := 1) (pc' := 24) (lv' := [(0, .ref 5), (1, .int x1), (2, .int x2)]) (st' := [.ref 5]) (h' := hp M) rfl ?_
      obtain ⟨q1, e_q1, h⟩ := Option.bind_eq_some_iff.mp h
      refine am_Y.call0 (M' := am_M198) (as := [.ref 5]) (rest := []) (d' := 2) rfl (by omega) rfl rfl (t_w_countToasts N M q1 e_q1) ?_
      refine am_Y.run (k := 2) (pc' := 29) (lv' := [(3, .int (0 : Int32)), (0, .ref 5), (1, .int x1), (2, .int x2)]) (st' := []) (h' := hp q1) rfl ?_
      refine am_Y.weak (lv2 := [(0, .ref 5), (2, .int x2), (3, .int (0 : Int32))]) rfl rfl ⟨rfl, rfl, rfl, trivial⟩ ?_
      exact t_w_round_29 N N x2 (0 : Int32) q1 _ _ h
set_option maxRecDepth 100000 in
theorem t_m_layToasts_2 {S : Nat × (Nat → Int32)} (N : Nat) : ∀ (n : Nat) (x1 : Int32) (M : Mem) (M' : Mem), f_m_layToasts_2 N n x1 M = some M' → am_Y S 1 0 0 am_M201 2 [(0, .ref 129), (1, .int x1)] [] (hp M) none (hp M') := by
  intro n
  induction n with
  | zero =>
    intro x1 M M' h
    cases h
  | succ n ih =>
    intro x1 M M' h
    rw [f_m_layToasts_2] at h
    refine am_Y.run (k := 2) (pc' := 5) (lv' := [(0, .ref 129), (1, .int x1)]) (st' := [.int (8 : Int32), .int x1]) (h' := hp M) rfl ?_
    refine am_Y.br (c := (8 : Int32) ≤ x1) _ (t := 26) (u := 8) (lv' := [(0, .ref 129), (1, .int x1)]) (st' := []) (h' := hp M) rfl (fun hc => ?_) (fun hc => ?_)
    · replace h := (if_pos hc).symm.trans h
      obtain rfl := Option.some.inj h
      exact am_Y.ret rfl
    · replace h := (if_neg hc).symm.trans h
      refine am_Y.run (k := 6) (pc' := 16) (lv' := [(0, .ref 129), (1, .int x1)]) (st' := [.int (5 : Int32), .int x1, .ref 129, .int x1, .ref 141]) (h' := hp M) rfl ?_
      obtain ⟨q1, e_q1, h⟩ := Option.bind_eq_some_iff.mp h
      refine am_Y.call0 (M' := am_M146) (as := [.ref 129, .int x1, .int (5 : Int32)]) (rest := [.int x1, .ref 141]) (d' := 0) rfl (by omega) rfl rfl (t_m_get x1 (5 : Int32) M q1 e_q1) ?_
      obtain ⟨g, h⟩ := am_itg h
      refine am_Y.iast (a := 136) (n := 8) rfl rfl g ?_
      refine am_Y.run (k := 0) (pc' := _) (lv' := [(0, .ref 129), (1, .int x1)]) (st' := []) (h' := hp (si M 141 (x1).toNatClampNeg q1)) rfl ?_
      obtain ⟨q2, e_q2, h⟩ := Option.bind_eq_some_iff.mp h
      rw [Option.some.inj e_q2]
      refine am_Y.run (k := 2) (pc' := 2) (lv' := [(1, .int (x1 + (1 : Int32))), (0, .ref 129)]) (st' := []) (h' := hp q2) rfl ?_
      refine am_Y.weak (lv2 := [(0, .ref 129), (1, .int (x1 + (1 : Int32)))]) rfl rfl ⟨rfl, rfl, trivial⟩ ?_
      exact ih (x1 + (1 : Int32)) q2 _ h
set_option maxRecDepth 100000 in
theorem t_m_layToasts {S : Nat × (Nat → Int32)} (N : Nat) (M : Mem) (M' : Mem) (h : f_m_layToasts N M = some M') : am_Y S 1 0 0 am_M201 0 [(0, .ref 129)] [] (hp M) none (hp M') := by
  rw [f_m_layToasts] at h
  refine am_Y.run (k := 2) (pc' := 2) (lv' := [(1, .int (0 : Int32)), (0, .ref 129)]) (st' := []) (h' := hp M) rfl ?_
  refine am_Y.weak (lv2 := [(0, .ref 129), (1, .int (0 : Int32))]) rfl rfl ⟨rfl, rfl, trivial⟩ ?_
  exact t_m_layToasts_2 N N (0 : Int32) M _ h
set_option maxRecDepth 100000 in
theorem t_m_nextBy_4 {S : Nat × (Nat → Int32)} (N : Nat) : ∀ (n : Nat) (x1 : Int32) (x2 : Int32) (M : Mem) (r : Int32), f_m_nextBy_4 N n x1 x2 M = some r → am_Y S 2 0 0 am_M202 4 [(0, .ref 129), (1, .int x1), (2, .int x2)] [] (hp M) (some (.int r)) (hp M) := by
  intro n
  induction n with
  | zero =>
    intro x1 x2 M r h
    cases h
  | succ n ih =>
    intro x1 x2 M r h
    rw [f_m_nextBy_4] at h
    refine am_Y.run (k := 5) (pc' := 11) (lv' := [(0, .ref 129), (1, .int x1), (2, .int x2)]) (st' := [.int (gi M 130 0), .int x2]) (h' := hp M) rfl ?_
    refine am_Y.br (c := (gi M 130 0) ≤ x2) _ (t := 83) (u := 14) (lv' := [(0, .ref 129), (1, .int x1), (2, .int x2)]) (st' := []) (h' := hp M) rfl (fun hc => ?_) (fun hc => ?_)
    · replace h := (if_pos hc).symm.trans h
      refine am_Y.run (k := 1) (pc' := 84) (lv' := [(0, .ref 129), (1, .int x1), (2, .int x2)]) (st' := [.int x1]) (h' := hp M) rfl ?_
      obtain rfl := Option.some.inj h
      exact am_Y.ret rfl
    · replace h := (if_neg hc).symm.trans h
      refine am_Y.run (k := 2) (pc' := 16) (lv' := [(0, .ref 129), (1, .int x1), (2, .int x2)]) (st' := [.int x2, .ref 129]) (h' := hp M) rfl ?_
      obtain ⟨q1, e_q1, h⟩ := Option.bind_eq_some_iff.mp h
      refine am_Y.call0 (M' := am_M128) (as := [.ref 129, .int x2]) (rest := []) (d' := 1) rfl (by omega) rfl rfl (t_m_isThere x2 M q1 e_q1) ?_
      refine am_Y.br (c := q1 = (0 : Int32)) _ (t := 22) (u := 25) (lv' := [(0, .ref 129), (1, .int x1), (2, .int x2)]) (st' := []) (h' := hp M) rfl (fun hc => ?_) (fun hc => ?_)
      · replace h := (if_pos hc).symm.trans h
        refine am_Y.run (k := 3) (pc' := 4) (lv' := [(2, .int (x2 + (1 : Int32))), (0, .ref 129), (1, .int x1)]) (st' := []) (h' := hp M) rfl ?_
        refine am_Y.weak (lv2 := [(0, .ref 129), (1, .int x1), (2, .int (x2 + (1 : Int32)))]) rfl rfl ⟨rfl, rfl, rfl, trivial⟩ ?_
        exact ih x1 (x2 + (1 : Int32)) M _ h
      · replace h := (if_neg hc).symm.trans h
        refine am_Y.run (k := 2) (pc' := 27) (lv' := [(0, .ref 129), (1, .int x1), (2, .int x2)]) (st' := [.int (-1 : Int32), .int x1]) (h' := hp M) rfl ?_
        refine am_Y.br (c := x1 = (-1 : Int32)) _ (t := 75) (u := 30) (lv' := [(0, .ref 129), (1, .int x1), (2, .int x2)]) (st' := []) (h' := hp M) rfl (fun hc => ?_) (fun hc => ?_)
        · replace h := (if_pos hc).symm.trans h
          refine am_Y.run (k := 4) (pc' := 4) (lv' := [(2, .int (x2 + (1 : Int32))), (1, .int x2), (0, .ref 129)]) (st' := []) (h' := hp M) rfl ?_
          refine am_Y.weak (lv2 := [(0, .ref 129), (1, .int x2), (2, .int (x2 + (1 : Int32)))]) rfl rfl ⟨rfl, rfl, rfl, trivial⟩ ?_
          exact ih x2 (x2 + (1 : Int32)) M _ h
        · replace h := (if_neg hc).symm.trans h
          refine am_Y.run (k := 3) (pc' := 35) (lv' := [(0, .ref 129), (1, .int x1), (2, .int x2)]) (st' := [.int x2, .ref 141]) (h' := hp M) rfl ?_
          obtain ⟨g, h⟩ := am_itg h
          refine am_Y.iald (a := 136) (n := 8) rfl rfl g ?_
          refine am_Y.run (k := 3) (pc' := 41) (lv' := [(0, .ref 129), (1, .int x1), (2, .int x2)]) (st' := [.int x1, .ref 141, .int (gi M 141 (x2).toNatClampNeg)]) (h' := hp M) rfl ?_
          obtain ⟨g, h⟩ := am_itg h
          refine am_Y.iald (a := 136) (n := 8) rfl rfl g ?_
          refine am_Y.br (c := (gi M 141 (x2).toNatClampNeg) < (gi M 141 (x1).toNatClampNeg)) _ (t := 75) (u := 45) (lv' := [(0, .ref 129), (1, .int x1), (2, .int x2)]) (st' := []) (h' := hp M) rfl (fun hc => ?_) (fun hc => ?_)
          · replace h := (if_pos hc).symm.trans h
            refine am_Y.run (k := 4) (pc' := 4) (lv' := [(2, .int (x2 + (1 : Int32))), (1, .int x2), (0, .ref 129)]) (st' := []) (h' := hp M) rfl ?_
            refine am_Y.weak (lv2 := [(0, .ref 129), (1, .int x2), (2, .int (x2 + (1 : Int32)))]) rfl rfl ⟨rfl, rfl, rfl, trivial⟩ ?_
            exact ih x2 (x2 + (1 : Int32)) M _ h
          · replace h := (if_neg hc).symm.trans h
            refine am_Y.run (k := 3) (pc' := 50) (lv' := [(0, .ref 129), (1, .int x1), (2, .int x2)]) (st' := [.int x2, .ref 141]) (h' := hp M) rfl ?_
            obtain ⟨g, h⟩ := am_itg h
            refine am_Y.iald (a := 136) (n := 8) rfl rfl g ?_
            refine am_Y.run (k := 3) (pc' := 56) (lv' := [(0, .ref 129), (1, .int x1), (2, .int x2)]) (st' := [.int x1, .ref 141, .int (gi M 141 (x2).toNatClampNeg)]) (h' := hp M) rfl ?_
            obtain ⟨g, h⟩ := am_itg h
            refine am_Y.iald (a := 136) (n := 8) rfl rfl g ?_
            refine am_Y.br (c := (gi M 141 (x2).toNatClampNeg) = (gi M 141 (x1).toNatClampNeg)) _ (t := 60) (u := 77) (lv' := [(0, .ref 129), (1, .int x1), (2, .int x2)]) (st' := []) (h' := hp M) rfl (fun hc => ?_) (fun hc => ?_)
            · replace h := (if_pos hc).symm.trans h
              refine am_Y.run (k := 3) (pc' := 63) (lv' := [(0, .ref 129), (1, .int x1), (2, .int x2)]) (st' := [.int (0 : Int32), .int x2, .ref 129]) (h' := hp M) rfl ?_
              obtain ⟨q2, e_q2, h⟩ := Option.bind_eq_some_iff.mp h
              refine am_Y.call0 (M' := am_M146) (as := [.ref 129, .int x2, .int (0 : Int32)]) (rest := []) (d' := 0) rfl (by omega) rfl rfl (t_m_get x2 (0 : Int32) M q2 e_q2) ?_
              refine am_Y.run (k := 3) (pc' := 69) (lv' := [(0, .ref 129), (1, .int x1), (2, .int x2)]) (st' := [.int (0 : Int32), .int x1, .ref 129, .int q2]) (h' := hp M) rfl ?_
              obtain ⟨q3, e_q3, h⟩ := Option.bind_eq_some_iff.mp h
              refine am_Y.call0 (M' := am_M146) (as := [.ref 129, .int x1, .int (0 : Int32)]) (rest := [.int q2]) (d' := 0) rfl (by omega) rfl rfl (t_m_get x1 (0 : Int32) M q3 e_q3) ?_
              refine am_Y.br (c := q2 ≤ q3) _ (t := 77) (u := 75) (lv' := [(0, .ref 129), (1, .int x1), (2, .int x2)]) (st' := []) (h' := hp M) rfl (fun hc => ?_) (fun hc => ?_)
              · replace h := (if_pos hc).symm.trans h
                refine am_Y.run (k := 2) (pc' := 4) (lv' := [(2, .int (x2 + (1 : Int32))), (0, .ref 129), (1, .int x1)]) (st' := []) (h' := hp M) rfl ?_
                refine am_Y.weak (lv2 := [(0, .ref 129), (1, .int x1), (2, .int (x2 + (1 : Int32)))]) rfl rfl ⟨rfl, rfl, rfl, trivial⟩ ?_
                exact ih x1 (x2 + (1 : Int32)) M _ h
              · replace h := (if_neg hc).symm.trans h
                refine am_Y.run (k := 4) (pc' := 4) (lv' := [(2, .int (x2 + (1 : Int32))), (1, .int x2), (0, .ref 129)]) (st' := []) (h' := hp M) rfl ?_
                refine am_Y.weak (lv2 := [(0, .ref 129), (1, .int x2), (2, .int (x2 + (1 : Int32)))]) rfl rfl ⟨rfl, rfl, rfl, trivial⟩ ?_
                exact ih x2 (x2 + (1 : Int32)) M _ h
            · replace h := (if_neg hc).symm.trans h
              refine am_Y.run (k := 2) (pc' := 4) (lv' := [(2, .int (x2 + (1 : Int32))), (0, .ref 129), (1, .int x1)]) (st' := []) (h' := hp M) rfl ?_
              refine am_Y.weak (lv2 := [(0, .ref 129), (1, .int x1), (2, .int (x2 + (1 : Int32)))]) rfl rfl ⟨rfl, rfl, rfl, trivial⟩ ?_
              exact ih x1 (x2 + (1 : Int32)) M _ h
set_option maxRecDepth 100000 in
theorem t_m_nextBy {S : Nat × (Nat → Int32)} (N : Nat) (M : Mem) (r : Int32) (h : f_m_nextBy N M = some r) : am_Y S 2 0 0 am_M202 0 [(0, .ref 129)] [] (hp M) (some (.int r)) (hp M) := by
  rw [f_m_nextBy] at h
  refine am_Y.run (k := 4) (pc' := 4) (lv' := [(2, .int (0 : Int32)), (1, .int (-1 : Int32)), (0, .ref 129)]) (st' := []) (h' := hp M) rfl ?_
  refine am_Y.weak (lv2 := [(0, .ref 129), (1, .int (-1 : Int32)), (2, .int (0 : Int32))]) rfl rfl ⟨rfl, rfl, rfl, trivial⟩ ?_
  exact t_m_nextBy_4 N N (-1 : Int32) (0 : Int32) M _ h
set_option maxRecDepth 100000 in
theorem t_m_round_42 {S : Nat × (Nat → Int32)} (N : Nat) : ∀ (n : Nat) (x2 : Int32) (x3 : Int32) (x4 : Int32) (M : Mem) (r : Int32) (M' : Mem), f_m_round_42 N n x2 x3 x4 M = some (r, M') → am_Y S 3 0 0 am_M69 42 [(0, .ref 129), (2, .int x2), (3, .int x3), (4, .int x4)] [] (hp M) (some (.int r)) (hp M') := by
  intro n
  induction n with
  | zero =>
    intro x2 x3 x4 M r M' h
    cases h
  | succ n ih =>
    intro x2 x3 x4 M r M' h
    rw [f_m_round_42] at h
    refine am_Y.run (k := 2) (pc' := 45) (lv' := [(0, .ref 129), (2, .int x2), (3, .int x3), (4, .int x4)]) (st' := [.int x2, .int x4]) (h' := hp M) rfl ?_
    refine am_Y.br (c := x2 ≤ x4) _ (t := 69) (u := 48) (lv' := [(0, .ref 129), (2, .int x2), (3, .int x3), (4, .int x4)]) (st' := []) (h' := hp M) rfl (fun hc => ?_) (fun hc => ?_)
    · replace h := (if_pos hc).symm.trans h
      refine am_Y.run (k := 1) (pc' := 70) (lv' := [(0, .ref 129), (2, .int x2), (3, .int x3), (4, .int x4)]) (st' := [.int x3]) (h' := hp M) rfl ?_
      obtain ⟨rfl, rfl⟩ := Prod.mk.inj (Option.some.inj h)
      exact am_Y.ret rfl
    · replace h := (if_neg hc).symm.trans h
      refine am_Y.run (k := 4) (pc' := 54) (lv' := [(0, .ref 129), (2, .int x2), (3, .int x3), (4, .int x4)]) (st' := [.int x3, .ref 141, .int x3, .ref 141]) (h' := hp M) rfl ?_
      obtain ⟨g, h⟩ := am_itg h
      refine am_Y.iald (a := 136) (n := 8) rfl rfl g ?_
      refine am_Y.run (k := 2) (pc' := 57) (lv' := [(0, .ref 129), (2, .int x2), (3, .int x3), (4, .int x4)]) (st' := [.int ((gi M 141 (x3).toNatClampNeg) + (1 : Int32)), .int x3, .ref 141]) (h' := hp M) rfl ?_
      obtain ⟨g, h⟩ := am_itg h
      refine am_Y.iast (a := 136) (n := 8) rfl rfl g ?_
      refine am_Y.run (k := 0) (pc' := _) (lv' := [(0, .ref 129), (2, .int x2), (3, .int x3), (4, .int x4)]) (st' := []) (h' := hp (si M 141 (x3).toNatClampNeg ((gi M 141 (x3).toNatClampNeg) + (1 : Int32)))) rfl ?_
      obtain ⟨q4, e_q4, h⟩ := Option.bind_eq_some_iff.mp h
      rw [Option.some.inj e_q4]
      refine am_Y.run (k := 1) (pc' := 59) (lv' := [(0, .ref 129), (2, .int x2), (3, .int x3), (4, .int x4)]) (st' := [.ref 129]) (h' := hp q4) rfl ?_
      obtain ⟨q5, e_q5, h⟩ := Option.bind_eq_some_iff.mp h
      refine am_Y.call0 (M' := am_M202) (as := [.ref 129]) (rest := []) (d' := 2) rfl (by omega) rfl rfl (t_m_nextBy N q4 q5 e_q5) ?_
      refine am_Y.run (k := 3) (pc' := 42) (lv' := [(4, .int (x4 + (1 : Int32))), (3, .int q5), (0, .ref 129), (2, .int x2)]) (st' := []) (h' := hp q4) rfl ?_
      refine am_Y.weak (lv2 := [(0, .ref 129), (2, .int x2), (3, .int q5), (4, .int (x4 + (1 : Int32)))]) rfl rfl ⟨rfl, rfl, rfl, rfl, trivial⟩ ?_
      exact ih x2 q5 (x4 + (1 : Int32)) q4 _ _ h
set_option maxRecDepth 100000 in
theorem t_m_round {S : Nat × (Nat → Int32)} (N : Nat) (x1 : Int32) (x2 : Int32) (M : Mem) (r : Int32) (M' : Mem) (h : f_m_round N x1 x2 M = some (r, M')) : am_Y S 3 0 0 am_M69 0 [(0, .ref 129), (1, .int x1), (2, .int x2)] [] (hp M) (some (.int r)) (hp M') := by
  rw [f_m_round] at h
  refine am_Y.run (k := 3) (pc' := 4) (lv' := [(0, .ref 129), (1, .int x1), (2, .int x2)]) (st' := [.int (20 : Int32), .int (1 : Int32), .int x1]) (h' := hp M) rfl ?_
  refine am_Y.call0 (M' := am_M104) (as := [.int x1, .int (1 : Int32), .int (20 : Int32)]) (rest := []) (d' := 0) rfl (by omega) rfl rfl (t_m_isIn x1 (1 : Int32) (20 : Int32) M _ rfl) ?_
  refine am_Y.br (c := (f_m_isIn x1 (1 : Int32) (20 : Int32) M) = (0 : Int32)) _ (t := 28) (u := 10) (lv' := [(0, .ref 129), (1, .int x1), (2, .int x2)]) (st' := []) (h' := hp M) rfl (fun hc => ?_) (fun hc => ?_)
  · replace h := (if_pos hc).symm.trans h
    refine am_Y.run (k := 1) (pc' := 29) (lv' := [(0, .ref 129), (1, .int x1), (2, .int x2)]) (st' := [.int (-1 : Int32)]) (h' := hp M) rfl ?_
    obtain ⟨rfl, rfl⟩ := Prod.mk.inj (Option.some.inj h)
    exact am_Y.ret rfl
  · replace h := (if_neg hc).symm.trans h
    refine am_Y.run (k := 5) (pc' := 15) (lv' := [(0, .ref 129), (1, .int x1), (2, .int x2)]) (st' := [.int (x1 - (1 : Int32)), .int (0 : Int32), .int x2]) (h' := hp M) rfl ?_
    refine am_Y.call0 (M' := am_M104) (as := [.int x2, .int (0 : Int32), .int (x1 - (1 : Int32))]) (rest := []) (d' := 0) rfl (by omega) rfl rfl (t_m_isIn x2 (0 : Int32) (x1 - (1 : Int32)) M _ rfl) ?_
    refine am_Y.br (c := (f_m_isIn x2 (0 : Int32) (x1 - (1 : Int32)) M) = (0 : Int32)) _ (t := 28) (u := 21) (lv' := [(0, .ref 129), (1, .int x1), (2, .int x2)]) (st' := []) (h' := hp M) rfl (fun hc => ?_) (fun hc => ?_)
    · replace h := (if_pos hc).symm.trans h
      refine am_Y.run (k := 1) (pc' := 29) (lv' := [(0, .ref 129), (1, .int x1), (2, .int x2)]) (st' := [.int (-1 : Int32)]) (h' := hp M) rfl ?_
      obtain ⟨rfl, rfl⟩ := Prod.mk.inj (Option.some.inj h)
      exact am_Y.ret rfl
    · replace h := (if_neg hc).symm.trans h
      refine am_Y.run (k := 1) (pc' := 22) (lv' := [(0, .ref 129), (1, .int x1), (2, .int x2)]) (st' := [.ref 129]) (h' := hp M) rfl ?_
      obtain ⟨q1, e_q1, h⟩ := Option.bind_eq_some_iff.mp h
      refine am_Y.call0 (M' := am_M200) (as := [.ref 129]) (rest := []) (d' := 2) rfl (by omega) rfl rfl (t_m_there N M q1 e_q1) ?_
      refine am_Y.br (c := q1 = (0 : Int32)) _ (t := 28) (u := 30) (lv' := [(0, .ref 129), (1, .int x1), (2, .int x2)]) (st' := []) (h' := hp M) rfl (fun hc => ?_) (fun hc => ?_)
      · replace h := (if_pos hc).symm.trans h
        refine am_Y.run (k := 1) (pc' := 29) (lv' := [(0, .ref 129), (1, .int x1), (2, .int x2)]) (st' := [.int (-1 : Int32)]) (h' := hp M) rfl ?_
        obtain ⟨rfl, rfl⟩ := Prod.mk.inj (Option.some.inj h)
        exact am_Y.ret rfl
      · replace h := (if_neg hc).symm.trans h
        refine am_Y.run (k := 1) (pc' := 31) (lv' := [(0, .ref 129), (1, .int x1), (2, .int x2)]) (st' := [.ref 129]) (h' := hp M) rfl ?_
        obtain ⟨q2, e_q2, h⟩ := Option.bind_eq_some_iff.mp h
        refine am_Y.call0 (M' := am_M201) (as := [.ref 129]) (rest := []) (d' := 1) rfl (by omega) rfl rfl (t_m_layToasts N M q2 e_q2) ?_
        refine am_Y.run (k := 1) (pc' := 35) (lv' := [(0, .ref 129), (1, .int x1), (2, .int x2)]) (st' := [.ref 129]) (h' := hp q2) rfl ?_
        obtain ⟨q3, e_q3, h⟩ := Option.bind_eq_some_iff.mp h
        refine am_Y.call0 (M' := am_M202) (as := [.ref 129]) (rest := []) (d' := 2) rfl (by omega) rfl rfl (t_m_nextBy N q2 q3 e_q3) ?_
        refine am_Y.run (k := 3) (pc' := 42) (lv' := [(4, .int (0 : Int32)), (3, .int q3), (0, .ref 129), (1, .int x1), (2, .int x2)]) (st' := []) (h' := hp q2) rfl ?_
        refine am_Y.weak (lv2 := [(0, .ref 129), (2, .int x2), (3, .int q3), (4, .int (0 : Int32))]) rfl rfl ⟨rfl, rfl, rfl, rfl, trivial⟩ ?_
        exact t_m_round_42 N N x2 q3 (0 : Int32) q2 _ _ h
set_option maxRecDepth 100000 in
theorem t_e_standingWithout_52 {S : Nat × (Nat → Int32)} (N : Nat) (K5 : Int32 → Int32 → Int32 → Int32 → Mem → Option Int32) (hK5 : ∀ (x1 : Int32) (x2 : Int32) (x3 : Int32) (x4 : Int32) (M : Mem) (r : Int32), K5 x1 x2 x3 x4 M = some r → am_Y S 1 0 0 am_M203 5 [(0, .ref 11), (1, .int x1), (2, .int x2), (3, .int x3), (4, .int x4)] [] (hp M) (some (.int r)) (hp M)) (x1 : Int32) (x2 : Int32) (x3 : Int32) (x4 : Int32) (x5 : Int32) (x6 : Int32) (s0 : Int32) (M : Mem) (r : Int32) (h : f_e_standingWithout_52 N K5 x1 x2 x3 x4 x5 x6 s0 M = some r) : am_Y S 1 0 0 am_M203 52 [(0, .ref 11), (1, .int x1), (2, .int x2), (3, .int x3), (4, .int x4), (5, .int x5), (6, .int x6)] [.int s0] (hp M) (some (.int r)) (hp M) := by
  rw [f_e_standingWithout_52] at h
  refine am_Y.run (k := 3) (pc' := 57) (lv' := [(7, .int s0), (0, .ref 11), (1, .int x1), (2, .int x2), (3, .int x3), (4, .int x4), (5, .int x5), (6, .int x6)]) (st' := [.int (-1 : Int32), .int x6]) (h' := hp M) rfl ?_
  refine am_Y.br (c := x6 = (-1 : Int32)) _ (t := 80) (u := 60) (lv' := [(7, .int s0), (0, .ref 11), (1, .int x1), (2, .int x2), (3, .int x3), (4, .int x4), (5, .int x5), (6, .int x6)]) (st' := []) (h' := hp M) rfl (fun hc => ?_) (fun hc => ?_)
  · replace h := (if_pos hc).symm.trans h
    refine am_Y.run (k := 2) (pc' := 5) (lv' := [(4, .int (x4 + (1 : Int32))), (7, .int s0), (0, .ref 11), (1, .int x1), (2, .int x2), (3, .int x3), (5, .int x5), (6, .int x6)]) (st' := []) (h' := hp M) rfl ?_
    refine am_Y.weak (lv2 := [(0, .ref 11), (1, .int x1), (2, .int x2), (3, .int x3), (4, .int (x4 + (1 : Int32)))]) rfl rfl ⟨rfl, rfl, rfl, rfl, rfl, trivial⟩ ?_
    exact hK5 x1 x2 x3 (x4 + (1 : Int32)) M _ h
  · replace h := (if_neg hc).symm.trans h
    refine am_Y.run (k := 1) (pc' := 62) (lv' := [(7, .int s0), (0, .ref 11), (1, .int x1), (2, .int x2), (3, .int x3), (4, .int x4), (5, .int x5), (6, .int x6)]) (st' := [.int s0]) (h' := hp M) rfl ?_
    refine am_Y.br (c := s0 = (0 : Int32)) _ (t := 80) (u := 65) (lv' := [(7, .int s0), (0, .ref 11), (1, .int x1), (2, .int x2), (3, .int x3), (4, .int x4), (5, .int x5), (6, .int x6)]) (st' := []) (h' := hp M) rfl (fun hc => ?_) (fun hc => ?_)
    · replace h := (if_pos hc).symm.trans h
      refine am_Y.run (k := 2) (pc' := 5) (lv' := [(4, .int (x4 + (1 : Int32))), (7, .int s0), (0, .ref 11), (1, .int x1), (2, .int x2), (3, .int x3), (5, .int x5), (6, .int x6)]) (st' := []) (h' := hp M) rfl ?_
      refine am_Y.weak (lv2 := [(0, .ref 11), (1, .int x1), (2, .int x2), (3, .int x3), (4, .int (x4 + (1 : Int32)))]) rfl rfl ⟨rfl, rfl, rfl, rfl, rfl, trivial⟩ ?_
      exact hK5 x1 x2 x3 (x4 + (1 : Int32)) M _ h
    · replace h := (if_neg hc).symm.trans h
      refine am_Y.run (k := 3) (pc' := 70) (lv' := [(7, .int s0), (0, .ref 11), (1, .int x1), (2, .int x2), (3, .int x3), (4, .int x4), (5, .int x5), (6, .int x6)]) (st' := [.int x5, .int x6, .int x3]) (h' := hp M) rfl ?_
      refine am_Y.call0 (M' := am_M154) (as := [.int x5]) (rest := [.int x6, .int x3]) (d' := 0) rfl (by omega) rfl rfl (t_e_whoOf x5 M _ rfl) ?_
      refine am_Y.call0 (M' := am_M256) (as := [.int (f_e_whoOf x5 M)]) (rest := [.int x6, .int x3]) (d' := 0) rfl (by omega) rfl rfl (t_w_bitOf (f_e_whoOf x5 M) M _ rfl) ?_
      refine am_Y.call0 (M' := am_M189) (as := [.int x3, .int x6, .int (f_w_bitOf (f_e_whoOf x5 M) M)]) (rest := []) (d' := 0) rfl (by omega) rfl rfl (t_w_joined x3 x6 (f_w_bitOf (f_e_whoOf x5 M) M) M _ rfl) ?_
      refine am_Y.run (k := 3) (pc' := 5) (lv' := [(4, .int (x4 + (1 : Int32))), (3, .int (f_w_joined x3 x6 (f_w_bitOf (f_e_whoOf x5 M) M) M)), (7, .int s0), (0, .ref 11), (1, .int x1), (2, .int x2), (5, .int x5), (6, .int x6)]) (st' := []) (h' := hp M) rfl ?_
      refine am_Y.weak (lv2 := [(0, .ref 11), (1, .int x1), (2, .int x2), (3, .int (f_w_joined x3 x6 (f_w_bitOf (f_e_whoOf x5 M) M) M)), (4, .int (x4 + (1 : Int32)))]) rfl rfl ⟨rfl, rfl, rfl, rfl, rfl, trivial⟩ ?_
      exact hK5 x1 x2 (f_w_joined x3 x6 (f_w_bitOf (f_e_whoOf x5 M) M) M) (x4 + (1 : Int32)) M _ h
set_option maxRecDepth 100000 in
theorem t_e_standingWithout_5 {S : Nat × (Nat → Int32)} (N : Nat) : ∀ (n : Nat) (x1 : Int32) (x2 : Int32) (x3 : Int32) (x4 : Int32) (M : Mem) (r : Int32), f_e_standingWithout_5 N n x1 x2 x3 x4 M = some r → am_Y S 1 0 0 am_M203 5 [(0, .ref 11), (1, .int x1), (2, .int x2), (3, .int x3), (4, .int x4)] [] (hp M) (some (.int r)) (hp M) := by
  intro n
  induction n with
  | zero =>
    intro x1 x2 x3 x4 M r h
    cases h
  | succ n ih =>
    intro x1 x2 x3 x4 M r h
    rw [f_e_standingWithout_5] at h
    refine am_Y.run (k := 2) (pc' := 8) (lv' := [(0, .ref 11), (1, .int x1), (2, .int x2), (3, .int x3), (4, .int x4)]) (st' := [.ref 11, .int x4]) (h' := hp M) rfl ?_
    refine am_Y.call0 (M' := am_M151) (as := [.ref 11]) (rest := [.int x4]) (d' := 0) rfl (by omega) rfl rfl (t_e_spoken M _ rfl) ?_
    refine am_Y.br (c := (f_e_spoken M) ≤ x4) _ (t := 86) (u := 14) (lv' := [(0, .ref 11), (1, .int x1), (2, .int x2), (3, .int x3), (4, .int x4)]) (st' := []) (h' := hp M) rfl (fun hc => ?_) (fun hc => ?_)
    · replace h := (if_pos hc).symm.trans h
      refine am_Y.run (k := 1) (pc' := 87) (lv' := [(0, .ref 11), (1, .int x1), (2, .int x2), (3, .int x3), (4, .int x4)]) (st' := [.int x3]) (h' := hp M) rfl ?_
      obtain rfl := Option.some.inj h
      exact am_Y.ret rfl
    · replace h := (if_neg hc).symm.trans h
      refine am_Y.run (k := 2) (pc' := 17) (lv' := [(0, .ref 11), (1, .int x1), (2, .int x2), (3, .int x3), (4, .int x4)]) (st' := [.int x4, .ref 11]) (h' := hp M) rfl ?_
      obtain ⟨q1, e_q1, h⟩ := Option.bind_eq_some_iff.mp h
      refine am_Y.call0 (M' := am_M152) (as := [.ref 11, .int x4]) (rest := []) (d' := 0) rfl (by omega) rfl rfl (t_e_entry x4 M q1 e_q1) ?_
      refine am_Y.run (k := 2) (pc' := 24) (lv' := [(5, .int q1), (0, .ref 11), (1, .int x1), (2, .int x2), (3, .int x3), (4, .int x4)]) (st' := [.int q1]) (h' := hp M) rfl ?_
      refine am_Y.call0 (M' := am_M156) (as := [.int q1]) (rest := []) (d' := 0) rfl (by omega) rfl rfl (t_e_fallsOf q1 M _ rfl) ?_
      refine am_Y.run (k := 2) (pc' := 31) (lv' := [(6, .int (f_e_fallsOf q1 M)), (5, .int q1), (0, .ref 11), (1, .int x1), (2, .int x2), (3, .int x3), (4, .int x4)]) (st' := [.int q1]) (h' := hp M) rfl ?_
      refine am_Y.call0 (M' := am_M154) (as := [.int q1]) (rest := []) (d' := 0) rfl (by omega) rfl rfl (t_e_whoOf q1 M _ rfl) ?_
      refine am_Y.run (k := 1) (pc' := 35) (lv' := [(6, .int (f_e_fallsOf q1 M)), (5, .int q1), (0, .ref 11), (1, .int x1), (2, .int x2), (3, .int x3), (4, .int x4)]) (st' := [.int x1, .int (f_e_whoOf q1 M)]) (h' := hp M) rfl ?_
      refine am_Y.br (c := (f_e_whoOf q1 M) = x1) _ (t := 38) (u := 47) (lv' := [(6, .int (f_e_fallsOf q1 M)), (5, .int q1), (0, .ref 11), (1, .int x1), (2, .int x2), (3, .int x3), (4, .int x4)]) (st' := []) (h' := hp M) rfl (fun hc => ?_) (fun hc => ?_)
      · replace h := (if_pos hc).symm.trans h
        refine am_Y.run (k := 1) (pc' := 40) (lv' := [(6, .int (f_e_fallsOf q1 M)), (5, .int q1), (0, .ref 11), (1, .int x1), (2, .int x2), (3, .int x3), (4, .int x4)]) (st' := [.int q1]) (h' := hp M) rfl ?_
        refine am_Y.call0 (M' := am_M153) (as := [.int q1]) (rest := []) (d' := 0) rfl (by omega) rfl rfl (t_e_momentOf q1 M _ rfl) ?_
        refine am_Y.run (k := 1) (pc' := 44) (lv' := [(6, .int (f_e_fallsOf q1 M)), (5, .int q1), (0, .ref 11), (1, .int x1), (2, .int x2), (3, .int x3), (4, .int x4)]) (st' := [.int x2, .int (f_e_momentOf q1 M)]) (h' := hp M) rfl ?_
        refine am_Y.br (c := x2 ≤ (f_e_momentOf q1 M)) _ (t := 51) (u := 47) (lv' := [(6, .int (f_e_fallsOf q1 M)), (5, .int q1), (0, .ref 11), (1, .int x1), (2, .int x2), (3, .int x3), (4, .int x4)]) (st' := []) (h' := hp M) rfl (fun hc => ?_) (fun hc => ?_)
        · replace h := (if_pos hc).symm.trans h
          refine am_Y.run (k := 1) (pc' := 52) (lv' := [(6, .int (f_e_fallsOf q1 M)), (5, .int q1), (0, .ref 11), (1, .int x1), (2, .int x2), (3, .int x3), (4, .int x4)]) (st' := [.int (0 : Int32)]) (h' := hp M) rfl ?_
          refine am_Y.weak (lv2 := [(0, .ref 11), (1, .int x1), (2, .int x2), (3, .int x3), (4, .int x4), (5, .int q1), (6, .int (f_e_fallsOf q1 M))]) rfl rfl ⟨rfl, rfl, rfl, rfl, rfl, rfl, rfl, trivial⟩ ?_
          exact t_e_standingWithout_52 N _ ih x1 x2 x3 x4 q1 (f_e_fallsOf q1 M) (0 : Int32) M _ h
        · replace h := (if_neg hc).symm.trans h
          refine am_Y.run (k := 2) (pc' := 52) (lv' := [(6, .int (f_e_fallsOf q1 M)), (5, .int q1), (0, .ref 11), (1, .int x1), (2, .int x2), (3, .int x3), (4, .int x4)]) (st' := [.int (1 : Int32)]) (h' := hp M) rfl ?_
          refine am_Y.weak (lv2 := [(0, .ref 11), (1, .int x1), (2, .int x2), (3, .int x3), (4, .int x4), (5, .int q1), (6, .int (f_e_fallsOf q1 M))]) rfl rfl ⟨rfl, rfl, rfl, rfl, rfl, rfl, rfl, trivial⟩ ?_
          exact t_e_standingWithout_52 N _ ih x1 x2 x3 x4 q1 (f_e_fallsOf q1 M) (1 : Int32) M _ h
      · replace h := (if_neg hc).symm.trans h
        refine am_Y.run (k := 2) (pc' := 52) (lv' := [(6, .int (f_e_fallsOf q1 M)), (5, .int q1), (0, .ref 11), (1, .int x1), (2, .int x2), (3, .int x3), (4, .int x4)]) (st' := [.int (1 : Int32)]) (h' := hp M) rfl ?_
        refine am_Y.weak (lv2 := [(0, .ref 11), (1, .int x1), (2, .int x2), (3, .int x3), (4, .int x4), (5, .int q1), (6, .int (f_e_fallsOf q1 M))]) rfl rfl ⟨rfl, rfl, rfl, rfl, rfl, rfl, rfl, trivial⟩ ?_
        exact t_e_standingWithout_52 N _ ih x1 x2 x3 x4 q1 (f_e_fallsOf q1 M) (1 : Int32) M _ h
set_option maxRecDepth 100000 in
theorem t_e_standingWithout {S : Nat × (Nat → Int32)} (N : Nat) (x1 : Int32) (x2 : Int32) (M : Mem) (r : Int32) (h : f_e_standingWithout N x1 x2 M = some r) : am_Y S 1 0 0 am_M203 0 [(0, .ref 11), (1, .int x1), (2, .int x2)] [] (hp M) (some (.int r)) (hp M) := by
  rw [f_e_standingWithout] at h
  refine am_Y.run (k := 4) (pc' := 5) (lv' := [(4, .int (0 : Int32)), (3, .int (0 : Int32)), (0, .ref 11), (1, .int x1), (2, .int x2)]) (st' := []) (h' := hp M) rfl ?_
  refine am_Y.weak (lv2 := [(0, .ref 11), (1, .int x1), (2, .int x2), (3, .int (0 : Int32)), (4, .int (0 : Int32))]) rfl rfl ⟨rfl, rfl, rfl, rfl, rfl, trivial⟩ ?_
  exact t_e_standingWithout_5 N N x1 x2 (0 : Int32) (0 : Int32) M _ h
set_option maxRecDepth 100000 in
theorem t_w_provoked_28 {S : Nat × (Nat → Int32)} (N : Nat) : ∀ (n : Nat) (x1 : Int32) (x2 : Int32) (x3 : Int32) (M : Mem) (r : Int32), f_w_provoked_28 N n x1 x2 x3 M = some r → am_Y S 2 0 0 am_M70 28 [(0, .ref 5), (1, .int x1), (2, .int x2), (3, .int x3)] [] (hp M) (some (.int r)) (hp M) := by
  intro n
  induction n with
  | zero =>
    intro x1 x2 x3 M r h
    cases h
  | succ n ih =>
    intro x1 x2 x3 M r h
    rw [f_w_provoked_28] at h
    refine am_Y.run (k := 5) (pc' := 39) (lv' := [(0, .ref 5), (1, .int x1), (2, .int x2), (3, .int x3)]) (st' := [.int (gi M 7 3), .int x3]) (h' := hp M) rfl ?_
    refine am_Y.br (c := (gi M 7 3) ≤ x3) _ (t := 76) (u := 42) (lv' := [(0, .ref 5), (1, .int x1), (2, .int x2), (3, .int x3)]) (st' := []) (h' := hp M) rfl (fun hc => ?_) (fun hc => ?_)
    · replace h := (if_pos hc).symm.trans h
      refine am_Y.run (k := 1) (pc' := 77) (lv' := [(0, .ref 5), (1, .int x1), (2, .int x2), (3, .int x3)]) (st' := [.int (-1 : Int32)]) (h' := hp M) rfl ?_
      obtain rfl := Option.some.inj h
      exact am_Y.ret rfl
    · replace h := (if_neg hc).symm.trans h
      refine am_Y.run (k := 2) (pc' := 44) (lv' := [(0, .ref 5), (1, .int x1), (2, .int x2), (3, .int x3)]) (st' := [.int x1, .int x3]) (h' := hp M) rfl ?_
      refine am_Y.br (c := x3 = x1) _ (t := 70) (u := 47) (lv' := [(0, .ref 5), (1, .int x1), (2, .int x2), (3, .int x3)]) (st' := []) (h' := hp M) rfl (fun hc => ?_) (fun hc => ?_)
      · replace h := (if_pos hc).symm.trans h
        refine am_Y.run (k := 2) (pc' := 28) (lv' := [(3, .int (x3 + (1 : Int32))), (0, .ref 5), (1, .int x1), (2, .int x2)]) (st' := []) (h' := hp M) rfl ?_
        refine am_Y.weak (lv2 := [(0, .ref 5), (1, .int x1), (2, .int x2), (3, .int (x3 + (1 : Int32)))]) rfl rfl ⟨rfl, rfl, rfl, rfl, trivial⟩ ?_
        exact ih x1 x2 (x3 + (1 : Int32)) M _ h
      · replace h := (if_neg hc).symm.trans h
        refine am_Y.run (k := 5) (pc' := 56) (lv' := [(0, .ref 5), (1, .int x1), (2, .int x2), (3, .int x3)]) (st' := [.int x2, .int x3, .ref 11]) (h' := hp M) rfl ?_
        obtain ⟨q1, e_q1, h⟩ := Option.bind_eq_some_iff.mp h
        refine am_Y.call0 (M' := am_M203) (as := [.ref 11, .int x3, .int x2]) (rest := []) (d' := 1) rfl (by omega) rfl rfl (t_e_standingWithout N x3 x2 M q1 e_q1) ?_
        refine am_Y.call0 (M' := am_M190) (as := [.int q1]) (rest := []) (d' := 0) rfl (by omega) rfl rfl (t_w_holders q1 M _ rfl) ?_
        refine am_Y.run (k := 3) (pc' := 65) (lv' := [(0, .ref 5), (1, .int x1), (2, .int x2), (3, .int x3)]) (st' := [.int ((1 : Int32) <<< (x1 &&& 31)), .int (f_w_holders q1 M)]) (h' := hp M) rfl ?_
        refine am_Y.br (c := (f_w_holders q1 M) = ((1 : Int32) <<< (x1 &&& 31))) _ (t := 68) (u := 70) (lv' := [(0, .ref 5), (1, .int x1), (2, .int x2), (3, .int x3)]) (st' := []) (h' := hp M) rfl (fun hc => ?_) (fun hc => ?_)
        · replace h := (if_pos hc).symm.trans h
          refine am_Y.run (k := 1) (pc' := 69) (lv' := [(0, .ref 5), (1, .int x1), (2, .int x2), (3, .int x3)]) (st' := [.int x3]) (h' := hp M) rfl ?_
          obtain rfl := Option.some.inj h
          exact am_Y.ret rfl
        · replace h := (if_neg hc).symm.trans h
          refine am_Y.run (k := 2) (pc' := 28) (lv' := [(3, .int (x3 + (1 : Int32))), (0, .ref 5), (1, .int x1), (2, .int x2)]) (st' := []) (h' := hp M) rfl ?_
          refine am_Y.weak (lv2 := [(0, .ref 5), (1, .int x1), (2, .int x2), (3, .int (x3 + (1 : Int32)))]) rfl rfl ⟨rfl, rfl, rfl, rfl, trivial⟩ ?_
          exact ih x1 x2 (x3 + (1 : Int32)) M _ h
set_option maxRecDepth 100000 in
theorem t_w_provoked {S : Nat × (Nat → Int32)} (N : Nat) (x1 : Int32) (x2 : Int32) (M : Mem) (r : Int32) (h : f_w_provoked N x1 x2 M = some r) : am_Y S 2 0 0 am_M70 0 [(0, .ref 5), (1, .int x1), (2, .int x2)] [] (hp M) (some (.int r)) (hp M) := by
  rw [f_w_provoked] at h
  refine am_Y.run (k := 4) (pc' := 8) (lv' := [(0, .ref 5), (1, .int x1), (2, .int x2)]) (st' := [.int x1, .ref 7]) (h' := hp M) rfl ?_
  refine am_Y.call0 (M' := am_M140) (as := [.ref 7, .int x1]) (rest := []) (d' := 1) rfl (by omega) rfl rfl (t_g_knows x1 M _ rfl) ?_
  refine am_Y.br (c := (f_g_knows x1 M) = (0 : Int32)) _ (t := 24) (u := 14) (lv' := [(0, .ref 5), (1, .int x1), (2, .int x2)]) (st' := []) (h' := hp M) rfl (fun hc => ?_) (fun hc => ?_)
  · replace h := (if_pos hc).symm.trans h
    refine am_Y.run (k := 1) (pc' := 25) (lv' := [(0, .ref 5), (1, .int x1), (2, .int x2)]) (st' := [.int (-1 : Int32)]) (h' := hp M) rfl ?_
    obtain rfl := Option.some.inj h
    exact am_Y.ret rfl
  · replace h := (if_neg hc).symm.trans h
    refine am_Y.run (k := 3) (pc' := 18) (lv' := [(0, .ref 5), (1, .int x1), (2, .int x2)]) (st' := [.int (99 : Int32), .int (0 : Int32), .int x2]) (h' := hp M) rfl ?_
    refine am_Y.call0 (M' := am_M102) (as := [.int x2, .int (0 : Int32), .int (99 : Int32)]) (rest := []) (d' := 0) rfl (by omega) rfl rfl (t_w_within x2 (0 : Int32) (99 : Int32) M _ rfl) ?_
    refine am_Y.br (c := (f_w_within x2 (0 : Int32) (99 : Int32) M) = (0 : Int32)) _ (t := 24) (u := 26) (lv' := [(0, .ref 5), (1, .int x1), (2, .int x2)]) (st' := []) (h' := hp M) rfl (fun hc => ?_) (fun hc => ?_)
    · replace h := (if_pos hc).symm.trans h
      refine am_Y.run (k := 1) (pc' := 25) (lv' := [(0, .ref 5), (1, .int x1), (2, .int x2)]) (st' := [.int (-1 : Int32)]) (h' := hp M) rfl ?_
      obtain rfl := Option.some.inj h
      exact am_Y.ret rfl
    · replace h := (if_neg hc).symm.trans h
      refine am_Y.run (k := 2) (pc' := 28) (lv' := [(3, .int (0 : Int32)), (0, .ref 5), (1, .int x1), (2, .int x2)]) (st' := []) (h' := hp M) rfl ?_
      refine am_Y.weak (lv2 := [(0, .ref 5), (1, .int x1), (2, .int x2), (3, .int (0 : Int32))]) rfl rfl ⟨rfl, rfl, rfl, rfl, trivial⟩ ?_
      exact t_w_provoked_28 N N x1 x2 (0 : Int32) M _ h
set_option maxRecDepth 100000 in
theorem t_m_provoked_47 {S : Nat × (Nat → Int32)} (N : Nat) (K22 : Int32 → Int32 → Int32 → Mem → Option (Int32 × Mem)) (hK22 : ∀ (x1 : Int32) (x2 : Int32) (x3 : Int32) (M : Mem) (r : Int32) (M' : Mem), K22 x1 x2 x3 M = some (r, M') → am_Y S 2 0 0 am_M71 22 [(0, .ref 129), (1, .int x1), (2, .int x2), (3, .int x3)] [] (hp M) (some (.int r)) (hp M')) : ∀ (n : Nat) (x1 : Int32) (x2 : Int32) (x3 : Int32) (x4 : Int32) (M : Mem) (r : Int32) (M' : Mem), f_m_provoked_47 N K22 n x1 x2 x3 x4 M = some (r, M') → am_Y S 2 0 0 am_M71 47 [(0, .ref 129), (1, .int x1), (2, .int x2), (3, .int x3), (4, .int x4)] [] (hp M) (some (.int r)) (hp M') := by
  intro n
  induction n with
  | zero =>
    intro x1 x2 x3 x4 M r M' h
    cases h
  | succ n ih =>
    intro x1 x2 x3 x4 M r M' h
    rw [f_m_provoked_47] at h
    refine am_Y.run (k := 5) (pc' := 56) (lv' := [(0, .ref 129), (1, .int x1), (2, .int x2), (3, .int x3), (4, .int x4)]) (st' := [.int (gi M 130 8), .int x4]) (h' := hp M) rfl ?_
    refine am_Y.br (c := (gi M 130 8) ≤ x4) _ (t := 101) (u := 59) (lv' := [(0, .ref 129), (1, .int x1), (2, .int x2), (3, .int x3), (4, .int x4)]) (st' := []) (h' := hp M) rfl (fun hc => ?_) (fun hc => ?_)
    · replace h := (if_pos hc).symm.trans h
      refine am_Y.run (k := 5) (pc' := 108) (lv' := [(0, .ref 129), (1, .int x1), (2, .int x2), (3, .int x3), (4, .int x4)]) (st' := [.int ((1 : Int32) <<< (x1 &&& 31)), .int (gi M 129 29)]) (h' := hp M) rfl ?_
      refine am_Y.br (c := (gi M 129 29) = ((1 : Int32) <<< (x1 &&& 31))) _ (t := 111) (u := 113) (lv' := [(0, .ref 129), (1, .int x1), (2, .int x2), (3, .int x3), (4, .int x4)]) (st' := []) (h' := hp M) rfl (fun hc => ?_) (fun hc => ?_)
      · replace h := (if_pos hc).symm.trans h
        refine am_Y.run (k := 1) (pc' := 112) (lv' := [(0, .ref 129), (1, .int x1), (2, .int x2), (3, .int x3), (4, .int x4)]) (st' := [.int x3]) (h' := hp M) rfl ?_
        obtain ⟨rfl, rfl⟩ := Prod.mk.inj (Option.some.inj h)
        exact am_Y.ret rfl
      · replace h := (if_neg hc).symm.trans h
        refine am_Y.run (k := 2) (pc' := 22) (lv' := [(3, .int (x3 + (1 : Int32))), (0, .ref 129), (1, .int x1), (2, .int x2), (4, .int x4)]) (st' := []) (h' := hp M) rfl ?_
        refine am_Y.weak (lv2 := [(0, .ref 129), (1, .int x1), (2, .int x2), (3, .int (x3 + (1 : Int32)))]) rfl rfl ⟨rfl, rfl, rfl, rfl, trivial⟩ ?_
        exact hK22 x1 x2 (x3 + (1 : Int32)) M _ _ h
    · replace h := (if_neg hc).symm.trans h
      refine am_Y.run (k := 2) (pc' := 62) (lv' := [(0, .ref 129), (1, .int x1), (2, .int x2), (3, .int x3), (4, .int x4)]) (st' := [.int x4, .ref 129]) (h' := hp M) rfl ?_
      obtain ⟨q2, e_q2, h⟩ := Option.bind_eq_some_iff.mp h
      refine am_Y.call0 (M' := am_M158) (as := [.ref 129, .int x4]) (rest := []) (d' := 0) rfl (by omega) rfl rfl (t_m_whoOf x4 M q2 e_q2) ?_
      refine am_Y.run (k := 1) (pc' := 66) (lv' := [(0, .ref 129), (1, .int x1), (2, .int x2), (3, .int x3), (4, .int x4)]) (st' := [.int x3, .int q2]) (h' := hp M) rfl ?_
      refine am_Y.br (c := q2 = x3) _ (t := 69) (u := 79) (lv' := [(0, .ref 129), (1, .int x1), (2, .int x2), (3, .int x3), (4, .int x4)]) (st' := []) (h' := hp M) rfl (fun hc => ?_) (fun hc => ?_)
      · replace h := (if_pos hc).symm.trans h
        refine am_Y.run (k := 2) (pc' := 72) (lv' := [(0, .ref 129), (1, .int x1), (2, .int x2), (3, .int x3), (4, .int x4)]) (st' := [.int x4, .ref 129]) (h' := hp M) rfl ?_
        obtain ⟨q3, e_q3, h⟩ := Option.bind_eq_some_iff.mp h
        refine am_Y.call0 (M' := am_M157) (as := [.ref 129, .int x4]) (rest := []) (d' := 0) rfl (by omega) rfl rfl (t_m_momentOf x4 M q3 e_q3) ?_
        refine am_Y.run (k := 1) (pc' := 76) (lv' := [(0, .ref 129), (1, .int x1), (2, .int x2), (3, .int x3), (4, .int x4)]) (st' := [.int x2, .int q3]) (h' := hp M) rfl ?_
        refine am_Y.br (c := x2 ≤ q3) _ (t := 95) (u := 79) (lv' := [(0, .ref 129), (1, .int x1), (2, .int x2), (3, .int x3), (4, .int x4)]) (st' := []) (h' := hp M) rfl (fun hc => ?_) (fun hc => ?_)
        · replace h := (if_pos hc).symm.trans h
          refine am_Y.run (k := 2) (pc' := 47) (lv' := [(4, .int (x4 + (1 : Int32))), (0, .ref 129), (1, .int x1), (2, .int x2), (3, .int x3)]) (st' := []) (h' := hp M) rfl ?_
          refine am_Y.weak (lv2 := [(0, .ref 129), (1, .int x1), (2, .int x2), (3, .int x3), (4, .int (x4 + (1 : Int32)))]) rfl rfl ⟨rfl, rfl, rfl, rfl, rfl, trivial⟩ ?_
          exact ih x1 x2 x3 (x4 + (1 : Int32)) M _ _ h
        · replace h := (if_neg hc).symm.trans h
          refine am_Y.run (k := 3) (pc' := 83) (lv' := [(0, .ref 129), (1, .int x1), (2, .int x2), (3, .int x3), (4, .int x4)]) (st' := [.int x4, .ref 129, .ref 129]) (h' := hp M) rfl ?_
          obtain ⟨q4, e_q4, h⟩ := Option.bind_eq_some_iff.mp h
          refine am_Y.call0 (M' := am_M158) (as := [.ref 129, .int x4]) (rest := [.ref 129]) (d' := 0) rfl (by omega) rfl rfl (t_m_whoOf x4 M q4 e_q4) ?_
          refine am_Y.run (k := 2) (pc' := 89) (lv' := [(0, .ref 129), (1, .int x1), (2, .int x2), (3, .int x3), (4, .int x4)]) (st' := [.int x4, .ref 129, .int q4, .ref 129]) (h' := hp M) rfl ?_
          obtain ⟨q5, e_q5, h⟩ := Option.bind_eq_some_iff.mp h
          refine am_Y.call0 (M' := am_M160) (as := [.ref 129, .int x4]) (rest := [.int q4, .ref 129]) (d' := 0) rfl (by omega) rfl rfl (t_m_fallsOf x4 M q5 e_q5) ?_
          obtain ⟨q6, e_q6, h⟩ := Option.bind_eq_some_iff.mp h
          refine am_Y.call0 (M' := am_M205) (as := [.ref 129, .int q4, .int q5]) (rest := []) (d' := 0) rfl (by omega) rfl rfl (t_m_consider q4 q5 M q6 e_q6) ?_
          refine am_Y.run (k := 2) (pc' := 47) (lv' := [(4, .int (x4 + (1 : Int32))), (0, .ref 129), (1, .int x1), (2, .int x2), (3, .int x3)]) (st' := []) (h' := hp q6) rfl ?_
          refine am_Y.weak (lv2 := [(0, .ref 129), (1, .int x1), (2, .int x2), (3, .int x3), (4, .int (x4 + (1 : Int32)))]) rfl rfl ⟨rfl, rfl, rfl, rfl, rfl, trivial⟩ ?_
          exact ih x1 x2 x3 (x4 + (1 : Int32)) q6 _ _ h
      · replace h := (if_neg hc).symm.trans h
        refine am_Y.run (k := 3) (pc' := 83) (lv' := [(0, .ref 129), (1, .int x1), (2, .int x2), (3, .int x3), (4, .int x4)]) (st' := [.int x4, .ref 129, .ref 129]) (h' := hp M) rfl ?_
        obtain ⟨q7, e_q7, h⟩ := Option.bind_eq_some_iff.mp h
        refine am_Y.call0 (M' := am_M158) (as := [.ref 129, .int x4]) (rest := [.ref 129]) (d' := 0) rfl (by omega) rfl rfl (t_m_whoOf x4 M q7 e_q7) ?_
        refine am_Y.run (k := 2) (pc' := 89) (lv' := [(0, .ref 129), (1, .int x1), (2, .int x2), (3, .int x3), (4, .int x4)]) (st' := [.int x4, .ref 129, .int q7, .ref 129]) (h' := hp M) rfl ?_
        obtain ⟨q8, e_q8, h⟩ := Option.bind_eq_some_iff.mp h
        refine am_Y.call0 (M' := am_M160) (as := [.ref 129, .int x4]) (rest := [.int q7, .ref 129]) (d' := 0) rfl (by omega) rfl rfl (t_m_fallsOf x4 M q8 e_q8) ?_
        obtain ⟨q9, e_q9, h⟩ := Option.bind_eq_some_iff.mp h
        refine am_Y.call0 (M' := am_M205) (as := [.ref 129, .int q7, .int q8]) (rest := []) (d' := 0) rfl (by omega) rfl rfl (t_m_consider q7 q8 M q9 e_q9) ?_
        refine am_Y.run (k := 2) (pc' := 47) (lv' := [(4, .int (x4 + (1 : Int32))), (0, .ref 129), (1, .int x1), (2, .int x2), (3, .int x3)]) (st' := []) (h' := hp q9) rfl ?_
        refine am_Y.weak (lv2 := [(0, .ref 129), (1, .int x1), (2, .int x2), (3, .int x3), (4, .int (x4 + (1 : Int32)))]) rfl rfl ⟨rfl, rfl, rfl, rfl, rfl, trivial⟩ ?_
        exact ih x1 x2 x3 (x4 + (1 : Int32)) q9 _ _ h
set_option maxRecDepth 100000 in
theorem t_m_provoked_22 {S : Nat × (Nat → Int32)} (N : Nat) : ∀ (n : Nat) (x1 : Int32) (x2 : Int32) (x3 : Int32) (M : Mem) (r : Int32) (M' : Mem), f_m_provoked_22 N n x1 x2 x3 M = some (r, M') → am_Y S 2 0 0 am_M71 22 [(0, .ref 129), (1, .int x1), (2, .int x2), (3, .int x3)] [] (hp M) (some (.int r)) (hp M') := by
  intro n
  induction n with
  | zero =>
    intro x1 x2 x3 M r M' h
    cases h
  | succ n ih =>
    intro x1 x2 x3 M r M' h
    rw [f_m_provoked_22] at h
    refine am_Y.run (k := 5) (pc' := 29) (lv' := [(0, .ref 129), (1, .int x1), (2, .int x2), (3, .int x3)]) (st' := [.int (gi M 130 0), .int x3]) (h' := hp M) rfl ?_
    refine am_Y.br (c := (gi M 130 0) ≤ x3) _ (t := 119) (u := 32) (lv' := [(0, .ref 129), (1, .int x1), (2, .int x2), (3, .int x3)]) (st' := []) (h' := hp M) rfl (fun hc => ?_) (fun hc => ?_)
    · replace h := (if_pos hc).symm.trans h
      refine am_Y.run (k := 1) (pc' := 120) (lv' := [(0, .ref 129), (1, .int x1), (2, .int x2), (3, .int x3)]) (st' := [.int (-1 : Int32)]) (h' := hp M) rfl ?_
      obtain ⟨rfl, rfl⟩ := Prod.mk.inj (Option.some.inj h)
      exact am_Y.ret rfl
    · replace h := (if_neg hc).symm.trans h
      refine am_Y.run (k := 2) (pc' := 34) (lv' := [(0, .ref 129), (1, .int x1), (2, .int x2), (3, .int x3)]) (st' := [.int x1, .int x3]) (h' := hp M) rfl ?_
      refine am_Y.br (c := x3 = x1) _ (t := 37) (u := 40) (lv' := [(0, .ref 129), (1, .int x1), (2, .int x2), (3, .int x3)]) (st' := []) (h' := hp M) rfl (fun hc => ?_) (fun hc => ?_)
      · replace h := (if_pos hc).symm.trans h
        refine am_Y.run (k := 3) (pc' := 22) (lv' := [(3, .int (x3 + (1 : Int32))), (0, .ref 129), (1, .int x1), (2, .int x2)]) (st' := []) (h' := hp M) rfl ?_
        refine am_Y.weak (lv2 := [(0, .ref 129), (1, .int x1), (2, .int x2), (3, .int (x3 + (1 : Int32)))]) rfl rfl ⟨rfl, rfl, rfl, rfl, trivial⟩ ?_
        exact ih x1 x2 (x3 + (1 : Int32)) M _ _ h
      · replace h := (if_neg hc).symm.trans h
        refine am_Y.run (k := 1) (pc' := 41) (lv' := [(0, .ref 129), (1, .int x1), (2, .int x2), (3, .int x3)]) (st' := [.ref 129]) (h' := hp M) rfl ?_
        obtain ⟨q1, e_q1, h⟩ := Option.bind_eq_some_iff.mp h
        refine am_Y.call0 (M' := am_M204) (as := [.ref 129]) (rest := []) (d' := 0) rfl (by omega) rfl rfl (t_m_startHolding M q1 e_q1) ?_
        refine am_Y.run (k := 2) (pc' := 47) (lv' := [(4, .int (0 : Int32)), (0, .ref 129), (1, .int x1), (2, .int x2), (3, .int x3)]) (st' := []) (h' := hp q1) rfl ?_
        refine am_Y.weak (lv2 := [(0, .ref 129), (1, .int x1), (2, .int x2), (3, .int x3), (4, .int (0 : Int32))]) rfl rfl ⟨rfl, rfl, rfl, rfl, rfl, trivial⟩ ?_
        exact t_m_provoked_47 N _ ih N x1 x2 x3 (0 : Int32) q1 _ _ h
set_option maxRecDepth 100000 in
theorem t_m_provoked {S : Nat × (Nat → Int32)} (N : Nat) (x1 : Int32) (x2 : Int32) (M : Mem) (r : Int32) (M' : Mem) (h : f_m_provoked N x1 x2 M = some (r, M')) : am_Y S 2 0 0 am_M71 0 [(0, .ref 129), (1, .int x1), (2, .int x2)] [] (hp M) (some (.int r)) (hp M') := by
  rw [f_m_provoked] at h
  refine am_Y.run (k := 2) (pc' := 2) (lv' := [(0, .ref 129), (1, .int x1), (2, .int x2)]) (st' := [.int x1, .ref 129]) (h' := hp M) rfl ?_
  refine am_Y.call0 (M' := am_M115) (as := [.ref 129, .int x1]) (rest := []) (d' := 1) rfl (by omega) rfl rfl (t_m_isGuest x1 M _ rfl) ?_
  refine am_Y.br (c := (f_m_isGuest x1 M) = (0 : Int32)) _ (t := 18) (u := 8) (lv' := [(0, .ref 129), (1, .int x1), (2, .int x2)]) (st' := []) (h' := hp M) rfl (fun hc => ?_) (fun hc => ?_)
  · replace h := (if_pos hc).symm.trans h
    refine am_Y.run (k := 1) (pc' := 19) (lv' := [(0, .ref 129), (1, .int x1), (2, .int x2)]) (st' := [.int (-1 : Int32)]) (h' := hp M) rfl ?_
    obtain ⟨rfl, rfl⟩ := Prod.mk.inj (Option.some.inj h)
    exact am_Y.ret rfl
  · replace h := (if_neg hc).symm.trans h
    refine am_Y.run (k := 3) (pc' := 12) (lv' := [(0, .ref 129), (1, .int x1), (2, .int x2)]) (st' := [.int (99 : Int32), .int (0 : Int32), .int x2]) (h' := hp M) rfl ?_
    refine am_Y.call0 (M' := am_M104) (as := [.int x2, .int (0 : Int32), .int (99 : Int32)]) (rest := []) (d' := 0) rfl (by omega) rfl rfl (t_m_isIn x2 (0 : Int32) (99 : Int32) M _ rfl) ?_
    refine am_Y.br (c := (f_m_isIn x2 (0 : Int32) (99 : Int32) M) = (0 : Int32)) _ (t := 18) (u := 20) (lv' := [(0, .ref 129), (1, .int x1), (2, .int x2)]) (st' := []) (h' := hp M) rfl (fun hc => ?_) (fun hc => ?_)
    · replace h := (if_pos hc).symm.trans h
      refine am_Y.run (k := 1) (pc' := 19) (lv' := [(0, .ref 129), (1, .int x1), (2, .int x2)]) (st' := [.int (-1 : Int32)]) (h' := hp M) rfl ?_
      obtain ⟨rfl, rfl⟩ := Prod.mk.inj (Option.some.inj h)
      exact am_Y.ret rfl
    · replace h := (if_neg hc).symm.trans h
      refine am_Y.run (k := 2) (pc' := 22) (lv' := [(3, .int (0 : Int32)), (0, .ref 129), (1, .int x1), (2, .int x2)]) (st' := []) (h' := hp M) rfl ?_
      refine am_Y.weak (lv2 := [(0, .ref 129), (1, .int x1), (2, .int x2), (3, .int (0 : Int32))]) rfl rfl ⟨rfl, rfl, rfl, rfl, trivial⟩ ?_
      exact t_m_provoked_22 N N x1 x2 (0 : Int32) M _ _ h
set_option maxRecDepth 100000 in
theorem t_e_inTheWayOf_108 {S : Nat × (Nat → Int32)} (N : Nat) (K55 : Int32 → Int32 → Int32 → Int32 → Mem → Option Int32) (hK55 : ∀ (x1 : Int32) (x2 : Int32) (x3 : Int32) (x4 : Int32) (M : Mem) (r : Int32), K55 x1 x2 x3 x4 M = some r → am_Y S 1 0 0 am_M206 55 [(0, .ref 11), (1, .int x1), (2, .int x2), (3, .int x3), (4, .int x4)] [] (hp M) (some (.int r)) (hp M)) (x1 : Int32) (x2 : Int32) (x3 : Int32) (x4 : Int32) (x6 : Int32) (M : Mem) (r : Int32) (h : f_e_inTheWayOf_108 N K55 x1 x2 x3 x4 x6 M = some r) : am_Y S 1 0 0 am_M206 108 [(0, .ref 11), (1, .int x1), (2, .int x2), (3, .int x3), (4, .int x4), (6, .int x6)] [] (hp M) (some (.int r)) (hp M) := by
  rw [f_e_inTheWayOf_108] at h
  refine am_Y.run (k := 4) (pc' := 114) (lv' := [(7, .int (0 : Int32)), (0, .ref 11), (1, .int x1), (2, .int x2), (3, .int x3), (4, .int x4), (6, .int x6)]) (st' := [.int x2, .int x6]) (h' := hp M) rfl ?_
  refine am_Y.br (c := x2 < x6) _ (t := 122) (u := 117) (lv' := [(7, .int (0 : Int32)), (0, .ref 11), (1, .int x1), (2, .int x2), (3, .int x3), (4, .int x4), (6, .int x6)]) (st' := []) (h' := hp M) rfl (fun hc => ?_) (fun hc => ?_)
  · replace h := (if_pos hc).symm.trans h
    refine am_Y.run (k := 3) (pc' := 55) (lv' := [(4, .int (x4 + (1 : Int32))), (3, .int (x3 + (1 : Int32))), (7, .int (0 : Int32)), (0, .ref 11), (1, .int x1), (2, .int x2), (6, .int x6)]) (st' := []) (h' := hp M) rfl ?_
    refine am_Y.weak (lv2 := [(0, .ref 11), (1, .int x1), (2, .int x2), (3, .int (x3 + (1 : Int32))), (4, .int (x4 + (1 : Int32)))]) rfl rfl ⟨rfl, rfl, rfl, rfl, rfl, trivial⟩ ?_
    exact hK55 x1 x2 (x3 + (1 : Int32)) (x4 + (1 : Int32)) M _ h
  · replace h := (if_neg hc).symm.trans h
    refine am_Y.run (k := 4) (pc' := 55) (lv' := [(4, .int (x4 + (1 : Int32))), (7, .int (0 : Int32)), (0, .ref 11), (1, .int x1), (2, .int x2), (3, .int x3), (6, .int x6)]) (st' := []) (h' := hp M) rfl ?_
    refine am_Y.weak (lv2 := [(0, .ref 11), (1, .int x1), (2, .int x2), (3, .int x3), (4, .int (x4 + (1 : Int32)))]) rfl rfl ⟨rfl, rfl, rfl, rfl, rfl, trivial⟩ ?_
    exact hK55 x1 x2 x3 (x4 + (1 : Int32)) M _ h
set_option maxRecDepth 100000 in
theorem t_e_inTheWayOf_55 {S : Nat × (Nat → Int32)} (N : Nat) : ∀ (n : Nat) (x1 : Int32) (x2 : Int32) (x3 : Int32) (x4 : Int32) (M : Mem) (r : Int32), f_e_inTheWayOf_55 N n x1 x2 x3 x4 M = some r → am_Y S 1 0 0 am_M206 55 [(0, .ref 11), (1, .int x1), (2, .int x2), (3, .int x3), (4, .int x4)] [] (hp M) (some (.int r)) (hp M) := by
  intro n
  induction n with
  | zero =>
    intro x1 x2 x3 x4 M r h
    cases h
  | succ n ih =>
    intro x1 x2 x3 x4 M r h
    rw [f_e_inTheWayOf_55] at h
    refine am_Y.run (k := 2) (pc' := 58) (lv' := [(0, .ref 11), (1, .int x1), (2, .int x2), (3, .int x3), (4, .int x4)]) (st' := [.ref 11, .int x4]) (h' := hp M) rfl ?_
    refine am_Y.call0 (M' := am_M151) (as := [.ref 11]) (rest := [.int x4]) (d' := 0) rfl (by omega) rfl rfl (t_e_spoken M _ rfl) ?_
    refine am_Y.br (c := (f_e_spoken M) ≤ x4) _ (t := 131) (u := 64) (lv' := [(0, .ref 11), (1, .int x1), (2, .int x2), (3, .int x3), (4, .int x4)]) (st' := []) (h' := hp M) rfl (fun hc => ?_) (fun hc => ?_)
    · replace h := (if_pos hc).symm.trans h
      refine am_Y.run (k := 1) (pc' := 132) (lv' := [(0, .ref 11), (1, .int x1), (2, .int x2), (3, .int x3), (4, .int x4)]) (st' := [.int x3]) (h' := hp M) rfl ?_
      obtain rfl := Option.some.inj h
      exact am_Y.ret rfl
    · replace h := (if_neg hc).symm.trans h
      refine am_Y.run (k := 2) (pc' := 67) (lv' := [(0, .ref 11), (1, .int x1), (2, .int x2), (3, .int x3), (4, .int x4)]) (st' := [.int x4, .ref 11]) (h' := hp M) rfl ?_
      obtain ⟨q3, e_q3, h⟩ := Option.bind_eq_some_iff.mp h
      refine am_Y.call0 (M' := am_M152) (as := [.ref 11, .int x4]) (rest := []) (d' := 0) rfl (by omega) rfl rfl (t_e_entry x4 M q3 e_q3) ?_
      refine am_Y.run (k := 2) (pc' := 74) (lv' := [(5, .int q3), (0, .ref 11), (1, .int x1), (2, .int x2), (3, .int x3), (4, .int x4)]) (st' := [.int q3]) (h' := hp M) rfl ?_
      refine am_Y.call0 (M' := am_M156) (as := [.int q3]) (rest := []) (d' := 0) rfl (by omega) rfl rfl (t_e_fallsOf q3 M _ rfl) ?_
      refine am_Y.run (k := 3) (pc' := 82) (lv' := [(6, .int (f_e_fallsOf q3 M)), (5, .int q3), (0, .ref 11), (1, .int x1), (2, .int x2), (3, .int x3), (4, .int x4)]) (st' := [.int x2, .int (f_e_fallsOf q3 M)]) (h' := hp M) rfl ?_
      refine am_Y.br (c := (f_e_fallsOf q3 M) = x2) _ (t := 85) (u := 108) (lv' := [(6, .int (f_e_fallsOf q3 M)), (5, .int q3), (0, .ref 11), (1, .int x1), (2, .int x2), (3, .int x3), (4, .int x4)]) (st' := []) (h' := hp M) rfl (fun hc => ?_) (fun hc => ?_)
      · replace h := (if_pos hc).symm.trans h
        refine am_Y.run (k := 1) (pc' := 87) (lv' := [(6, .int (f_e_fallsOf q3 M)), (5, .int q3), (0, .ref 11), (1, .int x1), (2, .int x2), (3, .int x3), (4, .int x4)]) (st' := [.int q3]) (h' := hp M) rfl ?_
        refine am_Y.call0 (M' := am_M154) (as := [.int q3]) (rest := []) (d' := 0) rfl (by omega) rfl rfl (t_e_whoOf q3 M _ rfl) ?_
        refine am_Y.run (k := 1) (pc' := 91) (lv' := [(6, .int (f_e_fallsOf q3 M)), (5, .int q3), (0, .ref 11), (1, .int x1), (2, .int x2), (3, .int x3), (4, .int x4)]) (st' := [.int x1, .int (f_e_whoOf q3 M)]) (h' := hp M) rfl ?_
        refine am_Y.br (c := (f_e_whoOf q3 M) = x1) _ (t := 108) (u := 94) (lv' := [(6, .int (f_e_fallsOf q3 M)), (5, .int q3), (0, .ref 11), (1, .int x1), (2, .int x2), (3, .int x3), (4, .int x4)]) (st' := []) (h' := hp M) rfl (fun hc => ?_) (fun hc => ?_)
        · replace h := (if_pos hc).symm.trans h
          refine am_Y.weak (lv2 := [(0, .ref 11), (1, .int x1), (2, .int x2), (3, .int x3), (4, .int x4), (6, .int (f_e_fallsOf q3 M))]) rfl rfl ⟨rfl, rfl, rfl, rfl, rfl, rfl, trivial⟩ ?_
          exact t_e_inTheWayOf_108 N _ ih x1 x2 x3 x4 (f_e_fallsOf q3 M) M _ h
        · replace h := (if_neg hc).symm.trans h
          refine am_Y.run (k := 1) (pc' := 96) (lv' := [(6, .int (f_e_fallsOf q3 M)), (5, .int q3), (0, .ref 11), (1, .int x1), (2, .int x2), (3, .int x3), (4, .int x4)]) (st' := [.int q3]) (h' := hp M) rfl ?_
          refine am_Y.call0 (M' := am_M154) (as := [.int q3]) (rest := []) (d' := 0) rfl (by omega) rfl rfl (t_e_whoOf q3 M _ rfl) ?_
          refine am_Y.run (k := 1) (pc' := 101) (lv' := [(6, .int (f_e_fallsOf q3 M)), (5, .int q3), (0, .ref 11), (1, .int x1), (2, .int x2), (3, .int x3), (4, .int x4)]) (st' := [.int (8 : Int32), .int (f_e_whoOf q3 M)]) (h' := hp M) rfl ?_
          refine am_Y.br (c := (f_e_whoOf q3 M) = (8 : Int32)) _ (t := 108) (u := 104) (lv' := [(6, .int (f_e_fallsOf q3 M)), (5, .int q3), (0, .ref 11), (1, .int x1), (2, .int x2), (3, .int x3), (4, .int x4)]) (st' := []) (h' := hp M) rfl (fun hc => ?_) (fun hc => ?_)
          · replace h := (if_pos hc).symm.trans h
            refine am_Y.weak (lv2 := [(0, .ref 11), (1, .int x1), (2, .int x2), (3, .int x3), (4, .int x4), (6, .int (f_e_fallsOf q3 M))]) rfl rfl ⟨rfl, rfl, rfl, rfl, rfl, rfl, trivial⟩ ?_
            exact t_e_inTheWayOf_108 N _ ih x1 x2 x3 x4 (f_e_fallsOf q3 M) M _ h
          · replace h := (if_neg hc).symm.trans h
            refine am_Y.run (k := 5) (pc' := 114) (lv' := [(7, .int (1 : Int32)), (6, .int (f_e_fallsOf q3 M)), (5, .int q3), (0, .ref 11), (1, .int x1), (2, .int x2), (3, .int x3), (4, .int x4)]) (st' := [.int x2, .int (f_e_fallsOf q3 M)]) (h' := hp M) rfl ?_
            refine am_Y.br (c := x2 < (f_e_fallsOf q3 M)) _ (t := 122) (u := 117) (lv' := [(7, .int (1 : Int32)), (6, .int (f_e_fallsOf q3 M)), (5, .int q3), (0, .ref 11), (1, .int x1), (2, .int x2), (3, .int x3), (4, .int x4)]) (st' := []) (h' := hp M) rfl (fun hc => ?_) (fun hc => ?_)
            · replace h := (if_pos hc).symm.trans h
              refine am_Y.run (k := 3) (pc' := 55) (lv' := [(4, .int (x4 + (1 : Int32))), (3, .int (x3 + (1 : Int32))), (7, .int (1 : Int32)), (6, .int (f_e_fallsOf q3 M)), (5, .int q3), (0, .ref 11), (1, .int x1), (2, .int x2)]) (st' := []) (h' := hp M) rfl ?_
              refine am_Y.weak (lv2 := [(0, .ref 11), (1, .int x1), (2, .int x2), (3, .int (x3 + (1 : Int32))), (4, .int (x4 + (1 : Int32)))]) rfl rfl ⟨rfl, rfl, rfl, rfl, rfl, trivial⟩ ?_
              exact ih x1 x2 (x3 + (1 : Int32)) (x4 + (1 : Int32)) M _ h
            · replace h := (if_neg hc).symm.trans h
              refine am_Y.run (k := 5) (pc' := 55) (lv' := [(4, .int (x4 + (1 : Int32))), (3, .int (x3 + (1 : Int32))), (7, .int (1 : Int32)), (6, .int (f_e_fallsOf q3 M)), (5, .int q3), (0, .ref 11), (1, .int x1), (2, .int x2)]) (st' := []) (h' := hp M) rfl ?_
              refine am_Y.weak (lv2 := [(0, .ref 11), (1, .int x1), (2, .int x2), (3, .int (x3 + (1 : Int32))), (4, .int (x4 + (1 : Int32)))]) rfl rfl ⟨rfl, rfl, rfl, rfl, rfl, trivial⟩ ?_
              exact ih x1 x2 (x3 + (1 : Int32)) (x4 + (1 : Int32)) M _ h
      · replace h := (if_neg hc).symm.trans h
        refine am_Y.weak (lv2 := [(0, .ref 11), (1, .int x1), (2, .int x2), (3, .int x3), (4, .int x4), (6, .int (f_e_fallsOf q3 M))]) rfl rfl ⟨rfl, rfl, rfl, rfl, rfl, rfl, trivial⟩ ?_
        exact t_e_inTheWayOf_108 N _ ih x1 x2 x3 x4 (f_e_fallsOf q3 M) M _ h
set_option maxRecDepth 100000 in
theorem t_e_inTheWayOf_4 {S : Nat × (Nat → Int32)} (N : Nat) : ∀ (n : Nat) (x1 : Int32) (x2 : Int32) (x3 : Int32) (M : Mem) (r : Int32), f_e_inTheWayOf_4 N n x1 x2 x3 M = some r → am_Y S 1 0 0 am_M206 4 [(0, .ref 11), (1, .int x1), (2, .int x2), (3, .int x3)] [] (hp M) (some (.int r)) (hp M) := by
  intro n
  induction n with
  | zero =>
    intro x1 x2 x3 M r h
    cases h
  | succ n ih =>
    intro x1 x2 x3 M r h
    rw [f_e_inTheWayOf_4] at h
    refine am_Y.run (k := 2) (pc' := 6) (lv' := [(0, .ref 11), (1, .int x1), (2, .int x2), (3, .int x3)]) (st' := [.ref 11, .int x3]) (h' := hp M) rfl ?_
    refine am_Y.call0 (M' := am_M151) (as := [.ref 11]) (rest := [.int x3]) (d' := 0) rfl (by omega) rfl rfl (t_e_spoken M _ rfl) ?_
    refine am_Y.br (c := (f_e_spoken M) ≤ x3) _ (t := 43) (u := 12) (lv' := [(0, .ref 11), (1, .int x1), (2, .int x2), (3, .int x3)]) (st' := []) (h' := hp M) rfl (fun hc => ?_) (fun hc => ?_)
    · replace h := (if_pos hc).symm.trans h
      refine am_Y.run (k := 2) (pc' := 45) (lv' := [(0, .ref 11), (1, .int x1), (2, .int x2), (3, .int x3)]) (st' := [.int (-1 : Int32), .int x2]) (h' := hp M) rfl ?_
      refine am_Y.br (c := x2 = (-1 : Int32)) _ (t := 48) (u := 50) (lv' := [(0, .ref 11), (1, .int x1), (2, .int x2), (3, .int x3)]) (st' := []) (h' := hp M) rfl (fun hc => ?_) (fun hc => ?_)
      · replace h := (if_pos hc).symm.trans h
        refine am_Y.run (k := 1) (pc' := 49) (lv' := [(0, .ref 11), (1, .int x1), (2, .int x2), (3, .int x3)]) (st' := [.int (-1 : Int32)]) (h' := hp M) rfl ?_
        obtain rfl := Option.some.inj h
        exact am_Y.ret rfl
      · replace h := (if_neg hc).symm.trans h
        refine am_Y.run (k := 4) (pc' := 55) (lv' := [(4, .int (0 : Int32)), (3, .int (0 : Int32)), (0, .ref 11), (1, .int x1), (2, .int x2)]) (st' := []) (h' := hp M) rfl ?_
        refine am_Y.weak (lv2 := [(0, .ref 11), (1, .int x1), (2, .int x2), (3, .int (0 : Int32)), (4, .int (0 : Int32))]) rfl rfl ⟨rfl, rfl, rfl, rfl, rfl, trivial⟩ ?_
        exact t_e_inTheWayOf_55 N N x1 x2 (0 : Int32) (0 : Int32) M _ h
    · replace h := (if_neg hc).symm.trans h
      refine am_Y.run (k := 2) (pc' := 14) (lv' := [(0, .ref 11), (1, .int x1), (2, .int x2), (3, .int x3)]) (st' := [.int x3, .ref 11]) (h' := hp M) rfl ?_
      obtain ⟨q1, e_q1, h⟩ := Option.bind_eq_some_iff.mp h
      refine am_Y.call0 (M' := am_M152) (as := [.ref 11, .int x3]) (rest := []) (d' := 0) rfl (by omega) rfl rfl (t_e_entry x3 M q1 e_q1) ?_
      refine am_Y.call0 (M' := am_M154) (as := [.int q1]) (rest := []) (d' := 0) rfl (by omega) rfl rfl (t_e_whoOf q1 M _ rfl) ?_
      refine am_Y.run (k := 1) (pc' := 21) (lv' := [(0, .ref 11), (1, .int x1), (2, .int x2), (3, .int x3)]) (st' := [.int x1, .int (f_e_whoOf q1 M)]) (h' := hp M) rfl ?_
      refine am_Y.br (c := (f_e_whoOf q1 M) = x1) _ (t := 24) (u := 37) (lv' := [(0, .ref 11), (1, .int x1), (2, .int x2), (3, .int x3)]) (st' := []) (h' := hp M) rfl (fun hc => ?_) (fun hc => ?_)
      · replace h := (if_pos hc).symm.trans h
        refine am_Y.run (k := 3) (pc' := 27) (lv' := [(0, .ref 11), (1, .int x1), (2, .int x2), (3, .int x3)]) (st' := [.int x3, .ref 11, .int x2]) (h' := hp M) rfl ?_
        obtain ⟨q2, e_q2, h⟩ := Option.bind_eq_some_iff.mp h
        refine am_Y.call0 (M' := am_M152) (as := [.ref 11, .int x3]) (rest := [.int x2]) (d' := 0) rfl (by omega) rfl rfl (t_e_entry x3 M q2 e_q2) ?_
        refine am_Y.call0 (M' := am_M156) (as := [.int q2]) (rest := [.int x2]) (d' := 0) rfl (by omega) rfl rfl (t_e_fallsOf q2 M _ rfl) ?_
        refine am_Y.call0 (M' := am_M246) (as := [.int x2, .int (f_e_fallsOf q2 M)]) (rest := []) (d' := 0) rfl (by omega) rfl rfl (t_k_max0 x2 (f_e_fallsOf q2 M) M _ rfl) ?_
        refine am_Y.run (k := 3) (pc' := 4) (lv' := [(3, .int (x3 + (1 : Int32))), (2, .int (f_k_max0 x2 (f_e_fallsOf q2 M) M)), (0, .ref 11), (1, .int x1)]) (st' := []) (h' := hp M) rfl ?_
        refine am_Y.weak (lv2 := [(0, .ref 11), (1, .int x1), (2, .int (f_k_max0 x2 (f_e_fallsOf q2 M) M)), (3, .int (x3 + (1 : Int32)))]) rfl rfl ⟨rfl, rfl, rfl, rfl, trivial⟩ ?_
        exact ih x1 (f_k_max0 x2 (f_e_fallsOf q2 M) M) (x3 + (1 : Int32)) M _ h
      · replace h := (if_neg hc).symm.trans h
        refine am_Y.run (k := 2) (pc' := 4) (lv' := [(3, .int (x3 + (1 : Int32))), (0, .ref 11), (1, .int x1), (2, .int x2)]) (st' := []) (h' := hp M) rfl ?_
        refine am_Y.weak (lv2 := [(0, .ref 11), (1, .int x1), (2, .int x2), (3, .int (x3 + (1 : Int32)))]) rfl rfl ⟨rfl, rfl, rfl, rfl, trivial⟩ ?_
        exact ih x1 x2 (x3 + (1 : Int32)) M _ h
set_option maxRecDepth 100000 in
theorem t_e_inTheWayOf {S : Nat × (Nat → Int32)} (N : Nat) (x1 : Int32) (M : Mem) (r : Int32) (h : f_e_inTheWayOf N x1 M = some r) : am_Y S 1 0 0 am_M206 0 [(0, .ref 11), (1, .int x1)] [] (hp M) (some (.int r)) (hp M) := by
  rw [f_e_inTheWayOf] at h
  refine am_Y.run (k := 4) (pc' := 4) (lv' := [(3, .int (0 : Int32)), (2, .int (-1 : Int32)), (0, .ref 11), (1, .int x1)]) (st' := []) (h' := hp M) rfl ?_
  refine am_Y.weak (lv2 := [(0, .ref 11), (1, .int x1), (2, .int (-1 : Int32)), (3, .int (0 : Int32))]) rfl rfl ⟨rfl, rfl, rfl, rfl, trivial⟩ ?_
  exact t_e_inTheWayOf_4 N N x1 (-1 : Int32) (0 : Int32) M _ h
