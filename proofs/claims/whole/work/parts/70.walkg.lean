/-! AM does what the functions say. -/
set_option maxRecDepth 100000 in
theorem t_l_counted {S : Nat × (Nat → Int32)} (x0 : Int32) (x1 : Int32) (x2 : Int32) (M : Mem) (r : Int32) (h : f_l_counted x0 x1 x2 M = some r) : am_Y S 1 0 0 am_M318 0 [(0, .int x0), (1, .int x1), (2, .int x2)] [] (hp M) (some (.int r)) (hp M) := by
  rw [f_l_counted] at h
  refine am_Y.run (k := 1) (pc' := 1) (lv' := [(0, .int x0), (1, .int x1), (2, .int x2)]) (st' := [.int x0]) (h' := hp M) rfl ?_
  by_cases hc38 : x0 = (38 : Int32)
  · replace h := (if_pos hc38).symm.trans h
    refine am_Y.one (pc' := 28) (lv' := [(0, .int x0), (1, .int x1), (2, .int x2)]) (st' := []) (h' := hp M) (am_swc hc38 rfl) ?_
    refine am_Y.run (k := 10) (pc' := 75) (lv' := [(3, .long ((Int32.toInt64 x1) + (Int32.toInt64 x2))), (0, .int x0), (1, .int x1), (2, .int x2)]) (st' := [.long ((Int32.toInt64 x1) + (Int32.toInt64 x2)), .long (1000000 : Int64), .long (-1000000 : Int64)]) (h' := hp M) rfl ?_
    refine am_Y.call0 (M' := am_M299) (as := [.long (1000000 : Int64), .long ((Int32.toInt64 x1) + (Int32.toInt64 x2))]) (rest := [.long (-1000000 : Int64)]) (d' := 0) rfl (by omega) rfl rfl (t_k_min1 (1000000 : Int64) ((Int32.toInt64 x1) + (Int32.toInt64 x2)) M _ rfl) ?_
    refine am_Y.call0 (M' := am_M263) (as := [.long (-1000000 : Int64), .long (f_k_min1 (1000000 : Int64) ((Int32.toInt64 x1) + (Int32.toInt64 x2)) M)]) (rest := []) (d' := 0) rfl (by omega) rfl rfl (t_k_max1 (-1000000 : Int64) (f_k_min1 (1000000 : Int64) ((Int32.toInt64 x1) + (Int32.toInt64 x2)) M) M _ rfl) ?_
    refine am_Y.run (k := 1) (pc' := 82) (lv' := [(3, .long ((Int32.toInt64 x1) + (Int32.toInt64 x2))), (0, .int x0), (1, .int x1), (2, .int x2)]) (st' := [.int (Int64.toInt32 (f_k_max1 (-1000000 : Int64) (f_k_min1 (1000000 : Int64) ((Int32.toInt64 x1) + (Int32.toInt64 x2)) M) M))]) (h' := hp M) rfl ?_
    obtain rfl := Option.some.inj h
    exact am_Y.ret rfl
  replace h := (if_neg hc38).symm.trans h
  by_cases hc39 : x0 = (39 : Int32)
  · replace h := (if_pos hc39).symm.trans h
    refine am_Y.one (pc' := 37) (lv' := [(0, .int x0), (1, .int x1), (2, .int x2)]) (st' := []) (h' := hp M) (am_swc hc39 rfl) ?_
    refine am_Y.run (k := 10) (pc' := 75) (lv' := [(3, .long ((Int32.toInt64 x1) - (Int32.toInt64 x2))), (0, .int x0), (1, .int x1), (2, .int x2)]) (st' := [.long ((Int32.toInt64 x1) - (Int32.toInt64 x2)), .long (1000000 : Int64), .long (-1000000 : Int64)]) (h' := hp M) rfl ?_
    refine am_Y.call0 (M' := am_M299) (as := [.long (1000000 : Int64), .long ((Int32.toInt64 x1) - (Int32.toInt64 x2))]) (rest := [.long (-1000000 : Int64)]) (d' := 0) rfl (by omega) rfl rfl (t_k_min1 (1000000 : Int64) ((Int32.toInt64 x1) - (Int32.toInt64 x2)) M _ rfl) ?_
    refine am_Y.call0 (M' := am_M263) (as := [.long (-1000000 : Int64), .long (f_k_min1 (1000000 : Int64) ((Int32.toInt64 x1) - (Int32.toInt64 x2)) M)]) (rest := []) (d' := 0) rfl (by omega) rfl rfl (t_k_max1 (-1000000 : Int64) (f_k_min1 (1000000 : Int64) ((Int32.toInt64 x1) - (Int32.toInt64 x2)) M) M _ rfl) ?_
    refine am_Y.run (k := 1) (pc' := 82) (lv' := [(3, .long ((Int32.toInt64 x1) - (Int32.toInt64 x2))), (0, .int x0), (1, .int x1), (2, .int x2)]) (st' := [.int (Int64.toInt32 (f_k_max1 (-1000000 : Int64) (f_k_min1 (1000000 : Int64) ((Int32.toInt64 x1) - (Int32.toInt64 x2)) M) M))]) (h' := hp M) rfl ?_
    obtain rfl := Option.some.inj h
    exact am_Y.ret rfl
  replace h := (if_neg hc39).symm.trans h
  by_cases hc40 : x0 = (40 : Int32)
  · replace h := (if_pos hc40).symm.trans h
    refine am_Y.one (pc' := 46) (lv' := [(0, .int x0), (1, .int x1), (2, .int x2)]) (st' := []) (h' := hp M) (am_swc hc40 rfl) ?_
    refine am_Y.run (k := 10) (pc' := 75) (lv' := [(3, .long ((Int32.toInt64 x1) * (Int32.toInt64 x2))), (0, .int x0), (1, .int x1), (2, .int x2)]) (st' := [.long ((Int32.toInt64 x1) * (Int32.toInt64 x2)), .long (1000000 : Int64), .long (-1000000 : Int64)]) (h' := hp M) rfl ?_
    refine am_Y.call0 (M' := am_M299) (as := [.long (1000000 : Int64), .long ((Int32.toInt64 x1) * (Int32.toInt64 x2))]) (rest := [.long (-1000000 : Int64)]) (d' := 0) rfl (by omega) rfl rfl (t_k_min1 (1000000 : Int64) ((Int32.toInt64 x1) * (Int32.toInt64 x2)) M _ rfl) ?_
    refine am_Y.call0 (M' := am_M263) (as := [.long (-1000000 : Int64), .long (f_k_min1 (1000000 : Int64) ((Int32.toInt64 x1) * (Int32.toInt64 x2)) M)]) (rest := []) (d' := 0) rfl (by omega) rfl rfl (t_k_max1 (-1000000 : Int64) (f_k_min1 (1000000 : Int64) ((Int32.toInt64 x1) * (Int32.toInt64 x2)) M) M _ rfl) ?_
    refine am_Y.run (k := 1) (pc' := 82) (lv' := [(3, .long ((Int32.toInt64 x1) * (Int32.toInt64 x2))), (0, .int x0), (1, .int x1), (2, .int x2)]) (st' := [.int (Int64.toInt32 (f_k_max1 (-1000000 : Int64) (f_k_min1 (1000000 : Int64) ((Int32.toInt64 x1) * (Int32.toInt64 x2)) M) M))]) (h' := hp M) rfl ?_
    obtain rfl := Option.some.inj h
    exact am_Y.ret rfl
  replace h := (if_neg hc40).symm.trans h
  refine am_Y.one (pc' := 55) (lv' := [(0, .int x0), (1, .int x1), (2, .int x2)]) (st' := []) (h' := hp M) (am_swd (x := x0) rfl (by have := am_neT (38) hc38 (by decide); have := am_neT (39) hc39 (by decide); have := am_neT (40) hc40 (by decide); omega) rfl) ?_
  refine am_Y.run (k := 1) (pc' := 56) (lv' := [(0, .int x0), (1, .int x1), (2, .int x2)]) (st' := [.int x2]) (h' := hp M) rfl ?_
  refine am_Y.br (c := x2 = (0 : Int32)) _ (t := 59) (u := 63) (lv' := [(0, .int x0), (1, .int x1), (2, .int x2)]) (st' := []) (h' := hp M) rfl (fun hc => ?_) (fun hc => ?_)
  · replace h := (if_pos hc).symm.trans h
    refine am_Y.run (k := 6) (pc' := 75) (lv' := [(3, .long (0 : Int64)), (0, .int x0), (1, .int x1), (2, .int x2)]) (st' := [.long (0 : Int64), .long (1000000 : Int64), .long (-1000000 : Int64)]) (h' := hp M) rfl ?_
    refine am_Y.call0 (M' := am_M299) (as := [.long (1000000 : Int64), .long (0 : Int64)]) (rest := [.long (-1000000 : Int64)]) (d' := 0) rfl (by omega) rfl rfl (t_k_min1 (1000000 : Int64) (0 : Int64) M (0 : Int64) (by exact (by decide : f_k_min1 (1000000 : Int64) (0 : Int64) (fun _ _ => 0, fun _ _ => 0) = (0 : Int64)))) ?_
    refine am_Y.call0 (M' := am_M263) (as := [.long (-1000000 : Int64), .long (0 : Int64)]) (rest := []) (d' := 0) rfl (by omega) rfl rfl (t_k_max1 (-1000000 : Int64) (0 : Int64) M (0 : Int64) (by exact (by decide : f_k_max1 (-1000000 : Int64) (0 : Int64) (fun _ _ => 0, fun _ _ => 0) = (0 : Int64)))) ?_
    refine am_Y.run (k := 1) (pc' := 82) (lv' := [(3, .long (0 : Int64)), (0, .int x0), (1, .int x1), (2, .int x2)]) (st' := [.int (Int64.toInt32 (0 : Int64))]) (h' := hp M) rfl ?_
    obtain rfl := Option.some.inj h
    exact am_Y.ret rfl
  · replace h := (if_neg hc).symm.trans h
    refine am_Y.run (k := 2) (pc' := 65) (lv' := [(0, .int x0), (1, .int x1), (2, .int x2)]) (st' := [.int x2, .int x1]) (h' := hp M) rfl ?_
    obtain ⟨g, h⟩ := am_itn h
    refine am_Y.idv rfl g ?_
    refine am_Y.run (k := 5) (pc' := 75) (lv' := [(3, .long (Int32.toInt64 (x1 / x2))), (0, .int x0), (1, .int x1), (2, .int x2)]) (st' := [.long (Int32.toInt64 (x1 / x2)), .long (1000000 : Int64), .long (-1000000 : Int64)]) (h' := hp M) rfl ?_
    refine am_Y.call0 (M' := am_M299) (as := [.long (1000000 : Int64), .long (Int32.toInt64 (x1 / x2))]) (rest := [.long (-1000000 : Int64)]) (d' := 0) rfl (by omega) rfl rfl (t_k_min1 (1000000 : Int64) (Int32.toInt64 (x1 / x2)) M _ rfl) ?_
    refine am_Y.call0 (M' := am_M263) (as := [.long (-1000000 : Int64), .long (f_k_min1 (1000000 : Int64) (Int32.toInt64 (x1 / x2)) M)]) (rest := []) (d' := 0) rfl (by omega) rfl rfl (t_k_max1 (-1000000 : Int64) (f_k_min1 (1000000 : Int64) (Int32.toInt64 (x1 / x2)) M) M _ rfl) ?_
    refine am_Y.run (k := 1) (pc' := 82) (lv' := [(3, .long (Int32.toInt64 (x1 / x2))), (0, .int x0), (1, .int x1), (2, .int x2)]) (st' := [.int (Int64.toInt32 (f_k_max1 (-1000000 : Int64) (f_k_min1 (1000000 : Int64) (Int32.toInt64 (x1 / x2)) M) M))]) (h' := hp M) rfl ?_
    obtain rfl := Option.some.inj h
    exact am_Y.ret rfl
set_option maxRecDepth 100000 in
theorem t_l_work {S : Nat × (Nat → Int32)} (x1 : Int32) (x2 : Int32) (M : Mem) (M' : Mem) (h : f_l_work x1 x2 M = some M') : am_Y S 2 0 0 am_M293 0 [(0, .ref 108), (1, .int x1), (2, .int x2)] [] (hp M) none (hp M') := by
  rw [f_l_work] at h
  refine am_Y.run (k := 3) (pc' := 4) (lv' := [(0, .ref 108), (1, .int x1), (2, .int x2)]) (st' := [.int (11 : Int32), .int (0 : Int32), .int x1]) (h' := hp M) rfl ?_
  refine am_Y.call0 (M' := am_M102) (as := [.int x1, .int (0 : Int32), .int (11 : Int32)]) (rest := []) (d' := 0) rfl (by omega) rfl rfl (t_w_within x1 (0 : Int32) (11 : Int32) M _ rfl) ?_
  refine am_Y.br (c := (f_w_within x1 (0 : Int32) (11 : Int32) M) = (0 : Int32)) _ (t := 23) (u := 10) (lv' := [(0, .ref 108), (1, .int x1), (2, .int x2)]) (st' := []) (h' := hp M) rfl (fun hc => ?_) (fun hc => ?_)
  · replace h := (if_pos hc).symm.trans h
    refine am_Y.run (k := 2) (pc' := 26) (lv' := [(0, .ref 108), (1, .int x1), (2, .int x2)]) (st' := [.int (33 : Int32), .int x1]) (h' := hp M) rfl ?_
    refine am_Y.br (c := x1 = (33 : Int32)) _ (t := 29) (u := 37) (lv' := [(0, .ref 108), (1, .int x1), (2, .int x2)]) (st' := []) (h' := hp M) rfl (fun hc => ?_) (fun hc => ?_)
    · replace h := (if_pos hc).symm.trans h
      refine am_Y.run (k := 2) (pc' := 31) (lv' := [(0, .ref 108), (1, .int x1), (2, .int x2)]) (st' := [.int x2, .ref 108]) (h' := hp M) rfl ?_
      obtain ⟨q1, e_q1, h⟩ := Option.bind_eq_some_iff.mp h
      refine am_Y.call0 (M' := am_M316) (as := [.ref 108, .int x2]) (rest := []) (d' := 0) rfl (by omega) rfl rfl (t_l_push x2 M q1 e_q1) ?_
      refine am_Y.run (k := 1) (pc' := 132) (lv' := [(0, .ref 108), (1, .int x1), (2, .int x2)]) (st' := []) (h' := hp q1) rfl ?_
      obtain rfl := Option.some.inj h
      exact am_Y.ret rfl
    · replace h := (if_neg hc).symm.trans h
      refine am_Y.run (k := 2) (pc' := 40) (lv' := [(0, .ref 108), (1, .int x1), (2, .int x2)]) (st' := [.int (50 : Int32), .int x1]) (h' := hp M) rfl ?_
      refine am_Y.br (c := x1 = (50 : Int32)) _ (t := 43) (u := 55) (lv' := [(0, .ref 108), (1, .int x1), (2, .int x2)]) (st' := []) (h' := hp M) rfl (fun hc => ?_) (fun hc => ?_)
      · replace h := (if_pos hc).symm.trans h
        refine am_Y.run (k := 2) (pc' := 45) (lv' := [(0, .ref 108), (1, .int x1), (2, .int x2)]) (st' := [.ref 108, .ref 108]) (h' := hp M) rfl ?_
        obtain ⟨q2, e_q2, h⟩ := Option.bind_eq_some_iff.mp h
        refine am_Y.call0 (M' := am_M294) (as := [.ref 108]) (rest := [.ref 108]) (d' := 0) rfl (by omega) rfl rfl (t_l_pop M q2.1 q2.2 e_q2) ?_
        refine am_Y.run (k := 1) (pc' := 49) (lv' := [(0, .ref 108), (1, .int x1), (2, .int x2)]) (st' := [.int (-q2.1), .ref 108]) (h' := hp q2.2) rfl ?_
        obtain ⟨q3, e_q3, h⟩ := Option.bind_eq_some_iff.mp h
        refine am_Y.call0 (M' := am_M316) (as := [.ref 108, .int (-q2.1)]) (rest := []) (d' := 0) rfl (by omega) rfl rfl (t_l_push (-q2.1) q2.2 q3 e_q3) ?_
        refine am_Y.run (k := 1) (pc' := 132) (lv' := [(0, .ref 108), (1, .int x1), (2, .int x2)]) (st' := []) (h' := hp q3) rfl ?_
        obtain rfl := Option.some.inj h
        exact am_Y.ret rfl
      · replace h := (if_neg hc).symm.trans h
        refine am_Y.run (k := 2) (pc' := 58) (lv' := [(0, .ref 108), (1, .int x1), (2, .int x2)]) (st' := [.int (26 : Int32), .int x1]) (h' := hp M) rfl ?_
        refine am_Y.br (c := x1 = (26 : Int32)) _ (t := 61) (u := 74) (lv' := [(0, .ref 108), (1, .int x1), (2, .int x2)]) (st' := []) (h' := hp M) rfl (fun hc => ?_) (fun hc => ?_)
        · replace h := (if_pos hc).symm.trans h
          refine am_Y.run (k := 3) (pc' := 64) (lv' := [(0, .ref 108), (1, .int x1), (2, .int x2)]) (st' := [.ref 108, .int (1 : Int32), .ref 108]) (h' := hp M) rfl ?_
          obtain ⟨q4, e_q4, h⟩ := Option.bind_eq_some_iff.mp h
          refine am_Y.call0 (M' := am_M294) (as := [.ref 108]) (rest := [.int (1 : Int32), .ref 108]) (d' := 0) rfl (by omega) rfl rfl (t_l_pop M q4.1 q4.2 e_q4) ?_
          refine am_Y.run (k := 1) (pc' := 68) (lv' := [(0, .ref 108), (1, .int x1), (2, .int x2)]) (st' := [.int ((1 : Int32) - q4.1), .ref 108]) (h' := hp q4.2) rfl ?_
          obtain ⟨q5, e_q5, h⟩ := Option.bind_eq_some_iff.mp h
          refine am_Y.call0 (M' := am_M316) (as := [.ref 108, .int ((1 : Int32) - q4.1)]) (rest := []) (d' := 0) rfl (by omega) rfl rfl (t_l_push ((1 : Int32) - q4.1) q4.2 q5 e_q5) ?_
          refine am_Y.run (k := 1) (pc' := 132) (lv' := [(0, .ref 108), (1, .int x1), (2, .int x2)]) (st' := []) (h' := hp q5) rfl ?_
          obtain rfl := Option.some.inj h
          exact am_Y.ret rfl
        · replace h := (if_neg hc).symm.trans h
          refine am_Y.run (k := 2) (pc' := 77) (lv' := [(0, .ref 108), (1, .int x1), (2, .int x2)]) (st' := [.int (52 : Int32), .int x1]) (h' := hp M) rfl ?_
          refine am_Y.br (c := x1 = (52 : Int32)) _ (t := 80) (u := 88) (lv' := [(0, .ref 108), (1, .int x1), (2, .int x2)]) (st' := []) (h' := hp M) rfl (fun hc => ?_) (fun hc => ?_)
          · replace h := (if_pos hc).symm.trans h
            refine am_Y.run (k := 1) (pc' := 81) (lv' := [(0, .ref 108), (1, .int x1), (2, .int x2)]) (st' := [.ref 108]) (h' := hp M) rfl ?_
            obtain ⟨q6, e_q6, h⟩ := Option.bind_eq_some_iff.mp h
            refine am_Y.call0 (M' := am_M294) (as := [.ref 108]) (rest := []) (d' := 0) rfl (by omega) rfl rfl (t_l_pop M q6.1 q6.2 e_q6) ?_
            refine am_Y.run (k := 2) (pc' := 132) (lv' := [(0, .ref 108), (1, .int x1), (2, .int x2)]) (st' := []) (h' := hp q6.2) rfl ?_
            obtain rfl := Option.some.inj h
            exact am_Y.ret rfl
          · replace h := (if_neg hc).symm.trans h
            refine am_Y.run (k := 1) (pc' := 89) (lv' := [(0, .ref 108), (1, .int x1), (2, .int x2)]) (st' := [.ref 108]) (h' := hp M) rfl ?_
            obtain ⟨q7, e_q7, h⟩ := Option.bind_eq_some_iff.mp h
            refine am_Y.call0 (M' := am_M294) (as := [.ref 108]) (rest := []) (d' := 0) rfl (by omega) rfl rfl (t_l_pop M q7.1 q7.2 e_q7) ?_
            refine am_Y.run (k := 2) (pc' := 94) (lv' := [(3, .int q7.1), (0, .ref 108), (1, .int x1), (2, .int x2)]) (st' := [.ref 108]) (h' := hp q7.2) rfl ?_
            obtain ⟨q8, e_q8, h⟩ := Option.bind_eq_some_iff.mp h
            refine am_Y.call0 (M' := am_M294) (as := [.ref 108]) (rest := []) (d' := 0) rfl (by omega) rfl rfl (t_l_pop q7.2 q8.1 q8.2 e_q8) ?_
            refine am_Y.run (k := 4) (pc' := 103) (lv' := [(4, .int q8.1), (3, .int q7.1), (0, .ref 108), (1, .int x1), (2, .int x2)]) (st' := [.int (37 : Int32), .int x1, .ref 108]) (h' := hp q8.2) rfl ?_
            refine am_Y.br (c := x1 ≤ (37 : Int32)) _ (t := 112) (u := 106) (lv' := [(4, .int q8.1), (3, .int q7.1), (0, .ref 108), (1, .int x1), (2, .int x2)]) (st' := [.ref 108]) (h' := hp q8.2) rfl (fun hc => ?_) (fun hc => ?_)
            · replace h := (if_pos hc).symm.trans h
              refine am_Y.run (k := 3) (pc' := 116) (lv' := [(4, .int q8.1), (3, .int q7.1), (0, .ref 108), (1, .int x1), (2, .int x2)]) (st' := [.int q7.1, .int q8.1, .int x1, .ref 108]) (h' := hp q8.2) rfl ?_
              refine am_Y.call0 (M' := am_M317) (as := [.int x1, .int q8.1, .int q7.1]) (rest := [.ref 108]) (d' := 0) rfl (by omega) rfl rfl (t_l_compared x1 q8.1 q7.1 q8.2 _ rfl) ?_
              refine am_Y.run (k := 1) (pc' := 129) (lv' := [(4, .int q8.1), (3, .int q7.1), (0, .ref 108), (1, .int x1), (2, .int x2)]) (st' := [.int (f_l_compared x1 q8.1 q7.1 q8.2), .ref 108]) (h' := hp q8.2) rfl ?_
              obtain ⟨q9, e_q9, h⟩ := Option.bind_eq_some_iff.mp h
              refine am_Y.call0 (M' := am_M316) (as := [.ref 108, .int (f_l_compared x1 q8.1 q7.1 q8.2)]) (rest := []) (d' := 0) rfl (by omega) rfl rfl (t_l_push (f_l_compared x1 q8.1 q7.1 q8.2) q8.2 q9 e_q9) ?_
              obtain rfl := Option.some.inj h
              exact am_Y.ret rfl
            · replace h := (if_neg hc).symm.trans h
              refine am_Y.run (k := 2) (pc' := 109) (lv' := [(4, .int q8.1), (3, .int q7.1), (0, .ref 108), (1, .int x1), (2, .int x2)]) (st' := [.int (46 : Int32), .int x1, .ref 108]) (h' := hp q8.2) rfl ?_
              refine am_Y.br (c := x1 < (46 : Int32)) _ (t := 122) (u := 112) (lv' := [(4, .int q8.1), (3, .int q7.1), (0, .ref 108), (1, .int x1), (2, .int x2)]) (st' := [.ref 108]) (h' := hp q8.2) rfl (fun hc => ?_) (fun hc => ?_)
              · replace h := (if_pos hc).symm.trans h
                refine am_Y.run (k := 3) (pc' := 126) (lv' := [(4, .int q8.1), (3, .int q7.1), (0, .ref 108), (1, .int x1), (2, .int x2)]) (st' := [.int q7.1, .int q8.1, .int x1, .ref 108]) (h' := hp q8.2) rfl ?_
                obtain ⟨q10, e_q10, h⟩ := Option.bind_eq_some_iff.mp h
                refine am_Y.call0 (M' := am_M318) (as := [.int x1, .int q8.1, .int q7.1]) (rest := [.ref 108]) (d' := 1) rfl (by omega) rfl rfl (t_l_counted x1 q8.1 q7.1 q8.2 q10 e_q10) ?_
                obtain ⟨q11, e_q11, h⟩ := Option.bind_eq_some_iff.mp h
                refine am_Y.call0 (M' := am_M316) (as := [.ref 108, .int q10]) (rest := []) (d' := 0) rfl (by omega) rfl rfl (t_l_push q10 q8.2 q11 e_q11) ?_
                obtain rfl := Option.some.inj h
                exact am_Y.ret rfl
              · replace h := (if_neg hc).symm.trans h
                refine am_Y.run (k := 3) (pc' := 116) (lv' := [(4, .int q8.1), (3, .int q7.1), (0, .ref 108), (1, .int x1), (2, .int x2)]) (st' := [.int q7.1, .int q8.1, .int x1, .ref 108]) (h' := hp q8.2) rfl ?_
                refine am_Y.call0 (M' := am_M317) (as := [.int x1, .int q8.1, .int q7.1]) (rest := [.ref 108]) (d' := 0) rfl (by omega) rfl rfl (t_l_compared x1 q8.1 q7.1 q8.2 _ rfl) ?_
                refine am_Y.run (k := 1) (pc' := 129) (lv' := [(4, .int q8.1), (3, .int q7.1), (0, .ref 108), (1, .int x1), (2, .int x2)]) (st' := [.int (f_l_compared x1 q8.1 q7.1 q8.2), .ref 108]) (h' := hp q8.2) rfl ?_
                obtain ⟨q12, e_q12, h⟩ := Option.bind_eq_some_iff.mp h
                refine am_Y.call0 (M' := am_M316) (as := [.ref 108, .int (f_l_compared x1 q8.1 q7.1 q8.2)]) (rest := []) (d' := 0) rfl (by omega) rfl rfl (t_l_push (f_l_compared x1 q8.1 q7.1 q8.2) q8.2 q12 e_q12) ?_
                obtain rfl := Option.some.inj h
                exact am_Y.ret rfl
  · replace h := (if_neg hc).symm.trans h
    refine am_Y.run (k := 4) (pc' := 16) (lv' := [(0, .ref 108), (1, .int x1), (2, .int x2)]) (st' := [.int x1, .ref 109, .ref 108]) (h' := hp M) rfl ?_
    obtain ⟨g, h⟩ := am_itg h
    refine am_Y.iald (a := 104) (n := 12) rfl rfl g ?_
    obtain ⟨q13, e_q13, h⟩ := Option.bind_eq_some_iff.mp h
    refine am_Y.call0 (M' := am_M316) (as := [.ref 108, .int (gi M 109 (x1).toNatClampNeg)]) (rest := []) (d' := 0) rfl (by omega) rfl rfl (t_l_push (gi M 109 (x1).toNatClampNeg) M q13 e_q13) ?_
    refine am_Y.run (k := 1) (pc' := 132) (lv' := [(0, .ref 108), (1, .int x1), (2, .int x2)]) (st' := []) (h' := hp q13) rfl ?_
    obtain rfl := Option.some.inj h
    exact am_Y.ret rfl
set_option maxRecDepth 100000 in
theorem t_l_run_10_113 {S : Nat × (Nat → Int32)} (N : Nat) : ∀ (n : Nat) (x3 : Int32) (x4 : Int32) (M : Mem) (r : Int32) (M' : Mem), f_l_run_10 N 113 n x3 x4 M = some (r, M') → am_Y S 3 0 0 am_M245 10 [(0, .ref 108), (1, .ref 113), (3, .int x3), (4, .int x4)] [] (hp M) (some (.int r)) (hp M') := by
  intro n
  induction n with
  | zero =>
    intro x3 x4 M r M' h
    cases h
  | succ n ih =>
    intro x3 x4 M r M' h
    rw [f_l_run_10] at h
    refine am_Y.run (k := 2) (pc' := 15) (lv' := [(0, .ref 108), (1, .ref 113), (3, .int x3), (4, .int x4)]) (st' := [.int (300 : Int32), .int x4]) (h' := hp M) rfl ?_
    refine am_Y.br (c := (300 : Int32) ≤ x4) _ (t := 88) (u := 18) (lv' := [(0, .ref 108), (1, .ref 113), (3, .int x3), (4, .int x4)]) (st' := []) (h' := hp M) rfl (fun hc => ?_) (fun hc => ?_)
    · replace h := (if_pos hc).symm.trans h
      refine am_Y.run (k := 1) (pc' := 89) (lv' := [(0, .ref 108), (1, .ref 113), (3, .int x3), (4, .int x4)]) (st' := [.ref 108]) (h' := hp M) rfl ?_
      obtain ⟨q2, e_q2, h⟩ := Option.bind_eq_some_iff.mp h
      refine am_Y.call0 (M' := am_M294) (as := [.ref 108]) (rest := []) (d' := 0) rfl (by omega) rfl rfl (t_l_pop M q2.1 q2.2 e_q2) ?_
      obtain ⟨rfl, rfl⟩ := Prod.mk.inj (Option.some.inj h)
      exact am_Y.ret rfl
    · replace h := (if_neg hc).symm.trans h
      refine am_Y.run (k := 2) (pc' := 20) (lv' := [(0, .ref 108), (1, .ref 113), (3, .int x3), (4, .int x4)]) (st' := [.int x3, .ref 113]) (h' := hp M) rfl ?_
      obtain ⟨q3, e_q3, h⟩ := Option.bind_eq_some_iff.mp h
      refine am_Y.call0 (M' := am_M290) (as := [.ref 113, .int x3]) (rest := []) (d' := 0) rfl (by omega) rfl rfl (t_p_opAt_113 x3 M q3 e_q3) ?_
      refine am_Y.run (k := 1) (pc' := 25) (lv' := [(0, .ref 108), (1, .ref 113), (3, .int x3), (4, .int x4)]) (st' := [.int (53 : Int32), .int q3]) (h' := hp M) rfl ?_
      refine am_Y.br (c := q3 = (53 : Int32)) _ (t := 88) (u := 28) (lv' := [(0, .ref 108), (1, .ref 113), (3, .int x3), (4, .int x4)]) (st' := []) (h' := hp M) rfl (fun hc => ?_) (fun hc => ?_)
      · replace h := (if_pos hc).symm.trans h
        refine am_Y.run (k := 1) (pc' := 89) (lv' := [(0, .ref 108), (1, .ref 113), (3, .int x3), (4, .int x4)]) (st' := [.ref 108]) (h' := hp M) rfl ?_
        obtain ⟨q4, e_q4, h⟩ := Option.bind_eq_some_iff.mp h
        refine am_Y.call0 (M' := am_M294) (as := [.ref 108]) (rest := []) (d' := 0) rfl (by omega) rfl rfl (t_l_pop M q4.1 q4.2 e_q4) ?_
        obtain ⟨rfl, rfl⟩ := Prod.mk.inj (Option.some.inj h)
        exact am_Y.ret rfl
      · replace h := (if_neg hc).symm.trans h
        refine am_Y.run (k := 2) (pc' := 30) (lv' := [(0, .ref 108), (1, .ref 113), (3, .int x3), (4, .int x4)]) (st' := [.int x3, .ref 113]) (h' := hp M) rfl ?_
        obtain ⟨q5, e_q5, h⟩ := Option.bind_eq_some_iff.mp h
        refine am_Y.call0 (M' := am_M290) (as := [.ref 113, .int x3]) (rest := []) (d' := 0) rfl (by omega) rfl rfl (t_p_opAt_113 x3 M q5 e_q5) ?_
        refine am_Y.run (k := 3) (pc' := 39) (lv' := [(5, .int q5), (0, .ref 108), (1, .ref 113), (3, .int x3), (4, .int x4)]) (st' := [.int (51 : Int32), .int q5]) (h' := hp M) rfl ?_
        refine am_Y.br (c := q5 = (51 : Int32)) _ (t := 42) (u := 51) (lv' := [(5, .int q5), (0, .ref 108), (1, .ref 113), (3, .int x3), (4, .int x4)]) (st' := []) (h' := hp M) rfl (fun hc => ?_) (fun hc => ?_)
        · replace h := (if_pos hc).symm.trans h
          refine am_Y.run (k := 2) (pc' := 44) (lv' := [(5, .int q5), (0, .ref 108), (1, .ref 113), (3, .int x3), (4, .int x4)]) (st' := [.int x3, .ref 113]) (h' := hp M) rfl ?_
          obtain ⟨q6, e_q6, h⟩ := Option.bind_eq_some_iff.mp h
          refine am_Y.call0 (M' := am_M291) (as := [.ref 113, .int x3]) (rest := []) (d' := 0) rfl (by omega) rfl rfl (t_p_argumentAt_a_113 x3 M q6 e_q6) ?_
          refine am_Y.run (k := 4) (pc' := 10) (lv' := [(4, .int (x4 + (1 : Int32))), (3, .int q6), (5, .int q5), (0, .ref 108), (1, .ref 113)]) (st' := []) (h' := hp M) rfl ?_
          refine am_Y.weak (lv2 := [(0, .ref 108), (1, .ref 113), (3, .int q6), (4, .int (x4 + (1 : Int32)))]) rfl rfl ⟨rfl, rfl, rfl, rfl, trivial⟩ ?_
          exact ih q6 (x4 + (1 : Int32)) M _ _ h
        · replace h := (if_neg hc).symm.trans h
          refine am_Y.run (k := 2) (pc' := 55) (lv' := [(5, .int q5), (0, .ref 108), (1, .ref 113), (3, .int x3), (4, .int x4)]) (st' := [.int (28 : Int32), .int q5]) (h' := hp M) rfl ?_
          refine am_Y.br (c := q5 = (28 : Int32)) _ (t := 58) (u := 68) (lv' := [(5, .int q5), (0, .ref 108), (1, .ref 113), (3, .int x3), (4, .int x4)]) (st' := []) (h' := hp M) rfl (fun hc => ?_) (fun hc => ?_)
          · replace h := (if_pos hc).symm.trans h
            refine am_Y.run (k := 3) (pc' := 61) (lv' := [(5, .int q5), (0, .ref 108), (1, .ref 113), (3, .int x3), (4, .int x4)]) (st' := [.int x3, .ref 113, .ref 108]) (h' := hp M) rfl ?_
            obtain ⟨q7, e_q7, h⟩ := Option.bind_eq_some_iff.mp h
            refine am_Y.call0 (M' := am_M292) (as := [.ref 108, .ref 113, .int x3]) (rest := []) (d' := 1) rfl (by omega) rfl rfl (t_l_behindCase_113 x3 M q7.1 q7.2 e_q7) ?_
            refine am_Y.run (k := 4) (pc' := 10) (lv' := [(4, .int (x4 + (1 : Int32))), (3, .int q7.1), (5, .int q5), (0, .ref 108), (1, .ref 113)]) (st' := []) (h' := hp q7.2) rfl ?_
            refine am_Y.weak (lv2 := [(0, .ref 108), (1, .ref 113), (3, .int q7.1), (4, .int (x4 + (1 : Int32)))]) rfl rfl ⟨rfl, rfl, rfl, rfl, trivial⟩ ?_
            exact ih q7.1 (x4 + (1 : Int32)) q7.2 _ _ h
          · replace h := (if_neg hc).symm.trans h
            refine am_Y.run (k := 4) (pc' := 73) (lv' := [(5, .int q5), (0, .ref 108), (1, .ref 113), (3, .int x3), (4, .int x4)]) (st' := [.int x3, .ref 113, .int q5, .ref 108]) (h' := hp M) rfl ?_
            obtain ⟨q8, e_q8, h⟩ := Option.bind_eq_some_iff.mp h
            refine am_Y.call0 (M' := am_M291) (as := [.ref 113, .int x3]) (rest := [.int q5, .ref 108]) (d' := 0) rfl (by omega) rfl rfl (t_p_argumentAt_a_113 x3 M q8 e_q8) ?_
            obtain ⟨q9, e_q9, h⟩ := Option.bind_eq_some_iff.mp h
            refine am_Y.call0 (M' := am_M293) (as := [.ref 108, .int q5, .int q8]) (rest := []) (d' := 2) rfl (by omega) rfl rfl (t_l_work q5 q8 M q9 e_q9) ?_
            refine am_Y.run (k := 3) (pc' := 10) (lv' := [(4, .int (x4 + (1 : Int32))), (3, .int (x3 + (1 : Int32))), (5, .int q5), (0, .ref 108), (1, .ref 113)]) (st' := []) (h' := hp q9) rfl ?_
            refine am_Y.weak (lv2 := [(0, .ref 108), (1, .ref 113), (3, .int (x3 + (1 : Int32))), (4, .int (x4 + (1 : Int32)))]) rfl rfl ⟨rfl, rfl, rfl, rfl, trivial⟩ ?_
            exact ih (x3 + (1 : Int32)) (x4 + (1 : Int32)) q9 _ _ h
set_option maxRecDepth 100000 in
theorem t_l_run_113 {S : Nat × (Nat → Int32)} (N : Nat) (x2 : Int32) (M : Mem) (r : Int32) (M' : Mem) (h : f_l_run N 113 x2 M = some (r, M')) : am_Y S 3 0 0 am_M245 0 [(0, .ref 108), (1, .ref 113), (2, .int x2)] [] (hp M) (some (.int r)) (hp M') := by
  rw [f_l_run] at h
  refine am_Y.run (k := 3) (pc' := 5) (lv' := [(0, .ref 108), (1, .ref 113), (2, .int x2)]) (st' := []) (h' := hp (si M 108 2 (0 : Int32))) rfl ?_
  obtain ⟨q1, e_q1, h⟩ := Option.bind_eq_some_iff.mp h
  rw [Option.some.inj e_q1]
  refine am_Y.run (k := 4) (pc' := 10) (lv' := [(4, .int (0 : Int32)), (3, .int x2), (0, .ref 108), (1, .ref 113), (2, .int x2)]) (st' := []) (h' := hp q1) rfl ?_
  refine am_Y.weak (lv2 := [(0, .ref 108), (1, .ref 113), (3, .int x2), (4, .int (0 : Int32))]) rfl rfl ⟨rfl, rfl, rfl, rfl, trivial⟩ ?_
  exact t_l_run_10_113 N N x2 (0 : Int32) q1 _ _ h
set_option maxRecDepth 100000 in
theorem t_l_run_10_117 {S : Nat × (Nat → Int32)} (N : Nat) : ∀ (n : Nat) (x3 : Int32) (x4 : Int32) (M : Mem) (r : Int32) (M' : Mem), f_l_run_10 N 117 n x3 x4 M = some (r, M') → am_Y S 3 0 0 am_M245 10 [(0, .ref 108), (1, .ref 117), (3, .int x3), (4, .int x4)] [] (hp M) (some (.int r)) (hp M') := by
  intro n
  induction n with
  | zero =>
    intro x3 x4 M r M' h
    cases h
  | succ n ih =>
    intro x3 x4 M r M' h
    rw [f_l_run_10] at h
    refine am_Y.run (k := 2) (pc' := 15) (lv' := [(0, .ref 108), (1, .ref 117), (3, .int x3), (4, .int x4)]) (st' := [.int (300 : Int32), .int x4]) (h' := hp M) rfl ?_
    refine am_Y.br (c := (300 : Int32) ≤ x4) _ (t := 88) (u := 18) (lv' := [(0, .ref 108), (1, .ref 117), (3, .int x3), (4, .int x4)]) (st' := []) (h' := hp M) rfl (fun hc => ?_) (fun hc => ?_)
    · replace h := (if_pos hc).symm.trans h
      refine am_Y.run (k := 1) (pc' := 89) (lv' := [(0, .ref 108), (1, .ref 117), (3, .int x3), (4, .int x4)]) (st' := [.ref 108]) (h' := hp M) rfl ?_
      obtain ⟨q2, e_q2, h⟩ := Option.bind_eq_some_iff.mp h
      refine am_Y.call0 (M' := am_M294) (as := [.ref 108]) (rest := []) (d' := 0) rfl (by omega) rfl rfl (t_l_pop M q2.1 q2.2 e_q2) ?_
      obtain ⟨rfl, rfl⟩ := Prod.mk.inj (Option.some.inj h)
      exact am_Y.ret rfl
    · replace h := (if_neg hc).symm.trans h
      refine am_Y.run (k := 2) (pc' := 20) (lv' := [(0, .ref 108), (1, .ref 117), (3, .int x3), (4, .int x4)]) (st' := [.int x3, .ref 117]) (h' := hp M) rfl ?_
      obtain ⟨q3, e_q3, h⟩ := Option.bind_eq_some_iff.mp h
      refine am_Y.call0 (M' := am_M290) (as := [.ref 117, .int x3]) (rest := []) (d' := 0) rfl (by omega) rfl rfl (t_p_opAt_117 x3 M q3 e_q3) ?_
      refine am_Y.run (k := 1) (pc' := 25) (lv' := [(0, .ref 108), (1, .ref 117), (3, .int x3), (4, .int x4)]) (st' := [.int (53 : Int32), .int q3]) (h' := hp M) rfl ?_
      refine am_Y.br (c := q3 = (53 : Int32)) _ (t := 88) (u := 28) (lv' := [(0, .ref 108), (1, .ref 117), (3, .int x3), (4, .int x4)]) (st' := []) (h' := hp M) rfl (fun hc => ?_) (fun hc => ?_)
      · replace h := (if_pos hc).symm.trans h
        refine am_Y.run (k := 1) (pc' := 89) (lv' := [(0, .ref 108), (1, .ref 117), (3, .int x3), (4, .int x4)]) (st' := [.ref 108]) (h' := hp M) rfl ?_
        obtain ⟨q4, e_q4, h⟩ := Option.bind_eq_some_iff.mp h
        refine am_Y.call0 (M' := am_M294) (as := [.ref 108]) (rest := []) (d' := 0) rfl (by omega) rfl rfl (t_l_pop M q4.1 q4.2 e_q4) ?_
        obtain ⟨rfl, rfl⟩ := Prod.mk.inj (Option.some.inj h)
        exact am_Y.ret rfl
      · replace h := (if_neg hc).symm.trans h
        refine am_Y.run (k := 2) (pc' := 30) (lv' := [(0, .ref 108), (1, .ref 117), (3, .int x3), (4, .int x4)]) (st' := [.int x3, .ref 117]) (h' := hp M) rfl ?_
        obtain ⟨q5, e_q5, h⟩ := Option.bind_eq_some_iff.mp h
        refine am_Y.call0 (M' := am_M290) (as := [.ref 117, .int x3]) (rest := []) (d' := 0) rfl (by omega) rfl rfl (t_p_opAt_117 x3 M q5 e_q5) ?_
        refine am_Y.run (k := 3) (pc' := 39) (lv' := [(5, .int q5), (0, .ref 108), (1, .ref 117), (3, .int x3), (4, .int x4)]) (st' := [.int (51 : Int32), .int q5]) (h' := hp M) rfl ?_
        refine am_Y.br (c := q5 = (51 : Int32)) _ (t := 42) (u := 51) (lv' := [(5, .int q5), (0, .ref 108), (1, .ref 117), (3, .int x3), (4, .int x4)]) (st' := []) (h' := hp M) rfl (fun hc => ?_) (fun hc => ?_)
        · replace h := (if_pos hc).symm.trans h
          refine am_Y.run (k := 2) (pc' := 44) (lv' := [(5, .int q5), (0, .ref 108), (1, .ref 117), (3, .int x3), (4, .int x4)]) (st' := [.int x3, .ref 117]) (h' := hp M) rfl ?_
          obtain ⟨q6, e_q6, h⟩ := Option.bind_eq_some_iff.mp h
          refine am_Y.call0 (M' := am_M291) (as := [.ref 117, .int x3]) (rest := []) (d' := 0) rfl (by omega) rfl rfl (t_p_argumentAt_a_117 x3 M q6 e_q6) ?_
          refine am_Y.run (k := 4) (pc' := 10) (lv' := [(4, .int (x4 + (1 : Int32))), (3, .int q6), (5, .int q5), (0, .ref 108), (1, .ref 117)]) (st' := []) (h' := hp M) rfl ?_
          refine am_Y.weak (lv2 := [(0, .ref 108), (1, .ref 117), (3, .int q6), (4, .int (x4 + (1 : Int32)))]) rfl rfl ⟨rfl, rfl, rfl, rfl, trivial⟩ ?_
          exact ih q6 (x4 + (1 : Int32)) M _ _ h
        · replace h := (if_neg hc).symm.trans h
          refine am_Y.run (k := 2) (pc' := 55) (lv' := [(5, .int q5), (0, .ref 108), (1, .ref 117), (3, .int x3), (4, .int x4)]) (st' := [.int (28 : Int32), .int q5]) (h' := hp M) rfl ?_
          refine am_Y.br (c := q5 = (28 : Int32)) _ (t := 58) (u := 68) (lv' := [(5, .int q5), (0, .ref 108), (1, .ref 117), (3, .int x3), (4, .int x4)]) (st' := []) (h' := hp M) rfl (fun hc => ?_) (fun hc => ?_)
          · replace h := (if_pos hc).symm.trans h
            refine am_Y.run (k := 3) (pc' := 61) (lv' := [(5, .int q5), (0, .ref 108), (1, .ref 117), (3, .int x3), (4, .int x4)]) (st' := [.int x3, .ref 117, .ref 108]) (h' := hp M) rfl ?_
            obtain ⟨q7, e_q7, h⟩ := Option.bind_eq_some_iff.mp h
            refine am_Y.call0 (M' := am_M292) (as := [.ref 108, .ref 117, .int x3]) (rest := []) (d' := 1) rfl (by omega) rfl rfl (t_l_behindCase_117 x3 M q7.1 q7.2 e_q7) ?_
            refine am_Y.run (k := 4) (pc' := 10) (lv' := [(4, .int (x4 + (1 : Int32))), (3, .int q7.1), (5, .int q5), (0, .ref 108), (1, .ref 117)]) (st' := []) (h' := hp q7.2) rfl ?_
            refine am_Y.weak (lv2 := [(0, .ref 108), (1, .ref 117), (3, .int q7.1), (4, .int (x4 + (1 : Int32)))]) rfl rfl ⟨rfl, rfl, rfl, rfl, trivial⟩ ?_
            exact ih q7.1 (x4 + (1 : Int32)) q7.2 _ _ h
          · replace h := (if_neg hc).symm.trans h
            refine am_Y.run (k := 4) (pc' := 73) (lv' := [(5, .int q5), (0, .ref 108), (1, .ref 117), (3, .int x3), (4, .int x4)]) (st' := [.int x3, .ref 117, .int q5, .ref 108]) (h' := hp M) rfl ?_
            obtain ⟨q8, e_q8, h⟩ := Option.bind_eq_some_iff.mp h
            refine am_Y.call0 (M' := am_M291) (as := [.ref 117, .int x3]) (rest := [.int q5, .ref 108]) (d' := 0) rfl (by omega) rfl rfl (t_p_argumentAt_a_117 x3 M q8 e_q8) ?_
            obtain ⟨q9, e_q9, h⟩ := Option.bind_eq_some_iff.mp h
            refine am_Y.call0 (M' := am_M293) (as := [.ref 108, .int q5, .int q8]) (rest := []) (d' := 2) rfl (by omega) rfl rfl (t_l_work q5 q8 M q9 e_q9) ?_
            refine am_Y.run (k := 3) (pc' := 10) (lv' := [(4, .int (x4 + (1 : Int32))), (3, .int (x3 + (1 : Int32))), (5, .int q5), (0, .ref 108), (1, .ref 117)]) (st' := []) (h' := hp q9) rfl ?_
            refine am_Y.weak (lv2 := [(0, .ref 108), (1, .ref 117), (3, .int (x3 + (1 : Int32))), (4, .int (x4 + (1 : Int32)))]) rfl rfl ⟨rfl, rfl, rfl, rfl, trivial⟩ ?_
            exact ih (x3 + (1 : Int32)) (x4 + (1 : Int32)) q9 _ _ h
set_option maxRecDepth 100000 in
theorem t_l_run_117 {S : Nat × (Nat → Int32)} (N : Nat) (x2 : Int32) (M : Mem) (r : Int32) (M' : Mem) (h : f_l_run N 117 x2 M = some (r, M')) : am_Y S 3 0 0 am_M245 0 [(0, .ref 108), (1, .ref 117), (2, .int x2)] [] (hp M) (some (.int r)) (hp M') := by
  rw [f_l_run] at h
  refine am_Y.run (k := 3) (pc' := 5) (lv' := [(0, .ref 108), (1, .ref 117), (2, .int x2)]) (st' := []) (h' := hp (si M 108 2 (0 : Int32))) rfl ?_
  obtain ⟨q1, e_q1, h⟩ := Option.bind_eq_some_iff.mp h
  rw [Option.some.inj e_q1]
  refine am_Y.run (k := 4) (pc' := 10) (lv' := [(4, .int (0 : Int32)), (3, .int x2), (0, .ref 108), (1, .ref 117), (2, .int x2)]) (st' := []) (h' := hp q1) rfl ?_
  refine am_Y.weak (lv2 := [(0, .ref 108), (1, .ref 117), (3, .int x2), (4, .int (0 : Int32))]) rfl rfl ⟨rfl, rfl, rfl, rfl, trivial⟩ ?_
  exact t_l_run_10_117 N N x2 (0 : Int32) q1 _ _ h
set_option maxRecDepth 100000 in
theorem t_l_run_10_121 {S : Nat × (Nat → Int32)} (N : Nat) : ∀ (n : Nat) (x3 : Int32) (x4 : Int32) (M : Mem) (r : Int32) (M' : Mem), f_l_run_10 N 121 n x3 x4 M = some (r, M') → am_Y S 3 0 0 am_M245 10 [(0, .ref 108), (1, .ref 121), (3, .int x3), (4, .int x4)] [] (hp M) (some (.int r)) (hp M') := by
  intro n
  induction n with
  | zero =>
    intro x3 x4 M r M' h
    cases h
  | succ n ih =>
    intro x3 x4 M r M' h
    rw [f_l_run_10] at h
    refine am_Y.run (k := 2) (pc' := 15) (lv' := [(0, .ref 108), (1, .ref 121), (3, .int x3), (4, .int x4)]) (st' := [.int (300 : Int32), .int x4]) (h' := hp M) rfl ?_
    refine am_Y.br (c := (300 : Int32) ≤ x4) _ (t := 88) (u := 18) (lv' := [(0, .ref 108), (1, .ref 121), (3, .int x3), (4, .int x4)]) (st' := []) (h' := hp M) rfl (fun hc => ?_) (fun hc => ?_)
    · replace h := (if_pos hc).symm.trans h
      refine am_Y.run (k := 1) (pc' := 89) (lv' := [(0, .ref 108), (1, .ref 121), (3, .int x3), (4, .int x4)]) (st' := [.ref 108]) (h' := hp M) rfl ?_
      obtain ⟨q2, e_q2, h⟩ := Option.bind_eq_some_iff.mp h
      refine am_Y.call0 (M' := am_M294) (as := [.ref 108]) (rest := []) (d' := 0) rfl (by omega) rfl rfl (t_l_pop M q2.1 q2.2 e_q2) ?_
      obtain ⟨rfl, rfl⟩ := Prod.mk.inj (Option.some.inj h)
      exact am_Y.ret rfl
    · replace h := (if_neg hc).symm.trans h
      refine am_Y.run (k := 2) (pc' := 20) (lv' := [(0, .ref 108), (1, .ref 121), (3, .int x3), (4, .int x4)]) (st' := [.int x3, .ref 121]) (h' := hp M) rfl ?_
      obtain ⟨q3, e_q3, h⟩ := Option.bind_eq_some_iff.mp h
      refine am_Y.call0 (M' := am_M290) (as := [.ref 121, .int x3]) (rest := []) (d' := 0) rfl (by omega) rfl rfl (t_p_opAt_121 x3 M q3 e_q3) ?_
      refine am_Y.run (k := 1) (pc' := 25) (lv' := [(0, .ref 108), (1, .ref 121), (3, .int x3), (4, .int x4)]) (st' := [.int (53 : Int32), .int q3]) (h' := hp M) rfl ?_
      refine am_Y.br (c := q3 = (53 : Int32)) _ (t := 88) (u := 28) (lv' := [(0, .ref 108), (1, .ref 121), (3, .int x3), (4, .int x4)]) (st' := []) (h' := hp M) rfl (fun hc => ?_) (fun hc => ?_)
      · replace h := (if_pos hc).symm.trans h
        refine am_Y.run (k := 1) (pc' := 89) (lv' := [(0, .ref 108), (1, .ref 121), (3, .int x3), (4, .int x4)]) (st' := [.ref 108]) (h' := hp M) rfl ?_
        obtain ⟨q4, e_q4, h⟩ := Option.bind_eq_some_iff.mp h
        refine am_Y.call0 (M' := am_M294) (as := [.ref 108]) (rest := []) (d' := 0) rfl (by omega) rfl rfl (t_l_pop M q4.1 q4.2 e_q4) ?_
        obtain ⟨rfl, rfl⟩ := Prod.mk.inj (Option.some.inj h)
        exact am_Y.ret rfl
      · replace h := (if_neg hc).symm.trans h
        refine am_Y.run (k := 2) (pc' := 30) (lv' := [(0, .ref 108), (1, .ref 121), (3, .int x3), (4, .int x4)]) (st' := [.int x3, .ref 121]) (h' := hp M) rfl ?_
        obtain ⟨q5, e_q5, h⟩ := Option.bind_eq_some_iff.mp h
        refine am_Y.call0 (M' := am_M290) (as := [.ref 121, .int x3]) (rest := []) (d' := 0) rfl (by omega) rfl rfl (t_p_opAt_121 x3 M q5 e_q5) ?_
        refine am_Y.run (k := 3) (pc' := 39) (lv' := [(5, .int q5), (0, .ref 108), (1, .ref 121), (3, .int x3), (4, .int x4)]) (st' := [.int (51 : Int32), .int q5]) (h' := hp M) rfl ?_
        refine am_Y.br (c := q5 = (51 : Int32)) _ (t := 42) (u := 51) (lv' := [(5, .int q5), (0, .ref 108), (1, .ref 121), (3, .int x3), (4, .int x4)]) (st' := []) (h' := hp M) rfl (fun hc => ?_) (fun hc => ?_)
        · replace h := (if_pos hc).symm.trans h
          refine am_Y.run (k := 2) (pc' := 44) (lv' := [(5, .int q5), (0, .ref 108), (1, .ref 121), (3, .int x3), (4, .int x4)]) (st' := [.int x3, .ref 121]) (h' := hp M) rfl ?_
          obtain ⟨q6, e_q6, h⟩ := Option.bind_eq_some_iff.mp h
          refine am_Y.call0 (M' := am_M291) (as := [.ref 121, .int x3]) (rest := []) (d' := 0) rfl (by omega) rfl rfl (t_p_argumentAt_a_121 x3 M q6 e_q6) ?_
          refine am_Y.run (k := 4) (pc' := 10) (lv' := [(4, .int (x4 + (1 : Int32))), (3, .int q6), (5, .int q5), (0, .ref 108), (1, .ref 121)]) (st' := []) (h' := hp M) rfl ?_
          refine am_Y.weak (lv2 := [(0, .ref 108), (1, .ref 121), (3, .int q6), (4, .int (x4 + (1 : Int32)))]) rfl rfl ⟨rfl, rfl, rfl, rfl, trivial⟩ ?_
          exact ih q6 (x4 + (1 : Int32)) M _ _ h
        · replace h := (if_neg hc).symm.trans h
          refine am_Y.run (k := 2) (pc' := 55) (lv' := [(5, .int q5), (0, .ref 108), (1, .ref 121), (3, .int x3), (4, .int x4)]) (st' := [.int (28 : Int32), .int q5]) (h' := hp M) rfl ?_
          refine am_Y.br (c := q5 = (28 : Int32)) _ (t := 58) (u := 68) (lv' := [(5, .int q5), (0, .ref 108), (1, .ref 121), (3, .int x3), (4, .int x4)]) (st' := []) (h' := hp M) rfl (fun hc => ?_) (fun hc => ?_)
          · replace h := (if_pos hc).symm.trans h
            refine am_Y.run (k := 3) (pc' := 61) (lv' := [(5, .int q5), (0, .ref 108), (1, .ref 121), (3, .int x3), (4, .int x4)]) (st' := [.int x3, .ref 121, .ref 108]) (h' := hp M) rfl ?_
            obtain ⟨q7, e_q7, h⟩ := Option.bind_eq_some_iff.mp h
            refine am_Y.call0 (M' := am_M292) (as := [.ref 108, .ref 121, .int x3]) (rest := []) (d' := 1) rfl (by omega) rfl rfl (t_l_behindCase_121 x3 M q7.1 q7.2 e_q7) ?_
            refine am_Y.run (k := 4) (pc' := 10) (lv' := [(4, .int (x4 + (1 : Int32))), (3, .int q7.1), (5, .int q5), (0, .ref 108), (1, .ref 121)]) (st' := []) (h' := hp q7.2) rfl ?_
            refine am_Y.weak (lv2 := [(0, .ref 108), (1, .ref 121), (3, .int q7.1), (4, .int (x4 + (1 : Int32)))]) rfl rfl ⟨rfl, rfl, rfl, rfl, trivial⟩ ?_
            exact ih q7.1 (x4 + (1 : Int32)) q7.2 _ _ h
          · replace h := (if_neg hc).symm.trans h
            refine am_Y.run (k := 4) (pc' := 73) (lv' := [(5, .int q5), (0, .ref 108), (1, .ref 121), (3, .int x3), (4, .int x4)]) (st' := [.int x3, .ref 121, .int q5, .ref 108]) (h' := hp M) rfl ?_
            obtain ⟨q8, e_q8, h⟩ := Option.bind_eq_some_iff.mp h
            refine am_Y.call0 (M' := am_M291) (as := [.ref 121, .int x3]) (rest := [.int q5, .ref 108]) (d' := 0) rfl (by omega) rfl rfl (t_p_argumentAt_a_121 x3 M q8 e_q8) ?_
            obtain ⟨q9, e_q9, h⟩ := Option.bind_eq_some_iff.mp h
            refine am_Y.call0 (M' := am_M293) (as := [.ref 108, .int q5, .int q8]) (rest := []) (d' := 2) rfl (by omega) rfl rfl (t_l_work q5 q8 M q9 e_q9) ?_
            refine am_Y.run (k := 3) (pc' := 10) (lv' := [(4, .int (x4 + (1 : Int32))), (3, .int (x3 + (1 : Int32))), (5, .int q5), (0, .ref 108), (1, .ref 121)]) (st' := []) (h' := hp q9) rfl ?_
            refine am_Y.weak (lv2 := [(0, .ref 108), (1, .ref 121), (3, .int (x3 + (1 : Int32))), (4, .int (x4 + (1 : Int32)))]) rfl rfl ⟨rfl, rfl, rfl, rfl, trivial⟩ ?_
            exact ih (x3 + (1 : Int32)) (x4 + (1 : Int32)) q9 _ _ h
set_option maxRecDepth 100000 in
theorem t_l_run_121 {S : Nat × (Nat → Int32)} (N : Nat) (x2 : Int32) (M : Mem) (r : Int32) (M' : Mem) (h : f_l_run N 121 x2 M = some (r, M')) : am_Y S 3 0 0 am_M245 0 [(0, .ref 108), (1, .ref 121), (2, .int x2)] [] (hp M) (some (.int r)) (hp M') := by
  rw [f_l_run] at h
  refine am_Y.run (k := 3) (pc' := 5) (lv' := [(0, .ref 108), (1, .ref 121), (2, .int x2)]) (st' := []) (h' := hp (si M 108 2 (0 : Int32))) rfl ?_
  obtain ⟨q1, e_q1, h⟩ := Option.bind_eq_some_iff.mp h
  rw [Option.some.inj e_q1]
  refine am_Y.run (k := 4) (pc' := 10) (lv' := [(4, .int (0 : Int32)), (3, .int x2), (0, .ref 108), (1, .ref 121), (2, .int x2)]) (st' := []) (h' := hp q1) rfl ?_
  refine am_Y.weak (lv2 := [(0, .ref 108), (1, .ref 121), (3, .int x2), (4, .int (0 : Int32))]) rfl rfl ⟨rfl, rfl, rfl, rfl, trivial⟩ ?_
  exact t_l_run_10_121 N N x2 (0 : Int32) q1 _ _ h
set_option maxRecDepth 100000 in
theorem t_l_run_10_125 {S : Nat × (Nat → Int32)} (N : Nat) : ∀ (n : Nat) (x3 : Int32) (x4 : Int32) (M : Mem) (r : Int32) (M' : Mem), f_l_run_10 N 125 n x3 x4 M = some (r, M') → am_Y S 3 0 0 am_M245 10 [(0, .ref 108), (1, .ref 125), (3, .int x3), (4, .int x4)] [] (hp M) (some (.int r)) (hp M') := by
  intro n
  induction n with
  | zero =>
    intro x3 x4 M r M' h
    cases h
  | succ n ih =>
    intro x3 x4 M r M' h
    rw [f_l_run_10] at h
    refine am_Y.run (k := 2) (pc' := 15) (lv' := [(0, .ref 108), (1, .ref 125), (3, .int x3), (4, .int x4)]) (st' := [.int (300 : Int32), .int x4]) (h' := hp M) rfl ?_
    refine am_Y.br (c := (300 : Int32) ≤ x4) _ (t := 88) (u := 18) (lv' := [(0, .ref 108), (1, .ref 125), (3, .int x3), (4, .int x4)]) (st' := []) (h' := hp M) rfl (fun hc => ?_) (fun hc => ?_)
    · replace h := (if_pos hc).symm.trans h
      refine am_Y.run (k := 1) (pc' := 89) (lv' := [(0, .ref 108), (1, .ref 125), (3, .int x3), (4, .int x4)]) (st' := [.ref 108]) (h' := hp M) rfl ?_
      obtain ⟨q2, e_q2, h⟩ := Option.bind_eq_some_iff.mp h
      refine am_Y.call0 (M' := am_M294) (as := [.ref 108]) (rest := []) (d' := 0) rfl (by omega) rfl rfl (t_l_pop M q2.1 q2.2 e_q2) ?_
      obtain ⟨rfl, rfl⟩ := Prod.mk.inj (Option.some.inj h)
      exact am_Y.ret rfl
    · replace h := (if_neg hc).symm.trans h
      refine am_Y.run (k := 2) (pc' := 20) (lv' := [(0, .ref 108), (1, .ref 125), (3, .int x3), (4, .int x4)]) (st' := [.int x3, .ref 125]) (h' := hp M) rfl ?_
      obtain ⟨q3, e_q3, h⟩ := Option.bind_eq_some_iff.mp h
      refine am_Y.call0 (M' := am_M290) (as := [.ref 125, .int x3]) (rest := []) (d' := 0) rfl (by omega) rfl rfl (t_p_opAt_125 x3 M q3 e_q3) ?_
      refine am_Y.run (k := 1) (pc' := 25) (lv' := [(0, .ref 108), (1, .ref 125), (3, .int x3), (4, .int x4)]) (st' := [.int (53 : Int32), .int q3]) (h' := hp M) rfl ?_
      refine am_Y.br (c := q3 = (53 : Int32)) _ (t := 88) (u := 28) (lv' := [(0, .ref 108), (1, .ref 125), (3, .int x3), (4, .int x4)]) (st' := []) (h' := hp M) rfl (fun hc => ?_) (fun hc => ?_)
      · replace h := (if_pos hc).symm.trans h
        refine am_Y.run (k := 1) (pc' := 89) (lv' := [(0, .ref 108), (1, .ref 125), (3, .int x3), (4, .int x4)]) (st' := [.ref 108]) (h' := hp M) rfl ?_
        obtain ⟨q4, e_q4, h⟩ := Option.bind_eq_some_iff.mp h
        refine am_Y.call0 (M' := am_M294) (as := [.ref 108]) (rest := []) (d' := 0) rfl (by omega) rfl rfl (t_l_pop M q4.1 q4.2 e_q4) ?_
        obtain ⟨rfl, rfl⟩ := Prod.mk.inj (Option.some.inj h)
        exact am_Y.ret rfl
      · replace h := (if_neg hc).symm.trans h
        refine am_Y.run (k := 2) (pc' := 30) (lv' := [(0, .ref 108), (1, .ref 125), (3, .int x3), (4, .int x4)]) (st' := [.int x3, .ref 125]) (h' := hp M) rfl ?_
        obtain ⟨q5, e_q5, h⟩ := Option.bind_eq_some_iff.mp h
        refine am_Y.call0 (M' := am_M290) (as := [.ref 125, .int x3]) (rest := []) (d' := 0) rfl (by omega) rfl rfl (t_p_opAt_125 x3 M q5 e_q5) ?_
        refine am_Y.run (k := 3) (pc' := 39) (lv' := [(5, .int q5), (0, .ref 108), (1, .ref 125), (3, .int x3), (4, .int x4)]) (st' := [.int (51 : Int32), .int q5]) (h' := hp M) rfl ?_
        refine am_Y.br (c := q5 = (51 : Int32)) _ (t := 42) (u := 51) (lv' := [(5, .int q5), (0, .ref 108), (1, .ref 125), (3, .int x3), (4, .int x4)]) (st' := []) (h' := hp M) rfl (fun hc => ?_) (fun hc => ?_)
        · replace h := (if_pos hc).symm.trans h
          refine am_Y.run (k := 2) (pc' := 44) (lv' := [(5, .int q5), (0, .ref 108), (1, .ref 125), (3, .int x3), (4, .int x4)]) (st' := [.int x3, .ref 125]) (h' := hp M) rfl ?_
          obtain ⟨q6, e_q6, h⟩ := Option.bind_eq_some_iff.mp h
          refine am_Y.call0 (M' := am_M291) (as := [.ref 125, .int x3]) (rest := []) (d' := 0) rfl (by omega) rfl rfl (t_p_argumentAt_a_125 x3 M q6 e_q6) ?_
          refine am_Y.run (k := 4) (pc' := 10) (lv' := [(4, .int (x4 + (1 : Int32))), (3, .int q6), (5, .int q5), (0, .ref 108), (1, .ref 125)]) (st' := []) (h' := hp M) rfl ?_
          refine am_Y.weak (lv2 := [(0, .ref 108), (1, .ref 125), (3, .int q6), (4, .int (x4 + (1 : Int32)))]) rfl rfl ⟨rfl, rfl, rfl, rfl, trivial⟩ ?_
          exact ih q6 (x4 + (1 : Int32)) M _ _ h
        · replace h := (if_neg hc).symm.trans h
          refine am_Y.run (k := 2) (pc' := 55) (lv' := [(5, .int q5), (0, .ref 108), (1, .ref 125), (3, .int x3), (4, .int x4)]) (st' := [.int (28 : Int32), .int q5]) (h' := hp M) rfl ?_
          refine am_Y.br (c := q5 = (28 : Int32)) _ (t := 58) (u := 68) (lv' := [(5, .int q5), (0, .ref 108), (1, .ref 125), (3, .int x3), (4, .int x4)]) (st' := []) (h' := hp M) rfl (fun hc => ?_) (fun hc => ?_)
          · replace h := (if_pos hc).symm.trans h
            refine am_Y.run (k := 3) (pc' := 61) (lv' := [(5, .int q5), (0, .ref 108), (1, .ref 125), (3, .int x3), (4, .int x4)]) (st' := [.int x3, .ref 125, .ref 108]) (h' := hp M) rfl ?_
            obtain ⟨q7, e_q7, h⟩ := Option.bind_eq_some_iff.mp h
            refine am_Y.call0 (M' := am_M292) (as := [.ref 108, .ref 125, .int x3]) (rest := []) (d' := 1) rfl (by omega) rfl rfl (t_l_behindCase_125 x3 M q7.1 q7.2 e_q7) ?_
            refine am_Y.run (k := 4) (pc' := 10) (lv' := [(4, .int (x4 + (1 : Int32))), (3, .int q7.1), (5, .int q5), (0, .ref 108), (1, .ref 125)]) (st' := []) (h' := hp q7.2) rfl ?_
            refine am_Y.weak (lv2 := [(0, .ref 108), (1, .ref 125), (3, .int q7.1), (4, .int (x4 + (1 : Int32)))]) rfl rfl ⟨rfl, rfl, rfl, rfl, trivial⟩ ?_
            exact ih q7.1 (x4 + (1 : Int32)) q7.2 _ _ h
          · replace h := (if_neg hc).symm.trans h
            refine am_Y.run (k := 4) (pc' := 73) (lv' := [(5, .int q5), (0, .ref 108), (1, .ref 125), (3, .int x3), (4, .int x4)]) (st' := [.int x3, .ref 125, .int q5, .ref 108]) (h' := hp M) rfl ?_
            obtain ⟨q8, e_q8, h⟩ := Option.bind_eq_some_iff.mp h
            refine am_Y.call0 (M' := am_M291) (as := [.ref 125, .int x3]) (rest := [.int q5, .ref 108]) (d' := 0) rfl (by omega) rfl rfl (t_p_argumentAt_a_125 x3 M q8 e_q8) ?_
            obtain ⟨q9, e_q9, h⟩ := Option.bind_eq_some_iff.mp h
            refine am_Y.call0 (M' := am_M293) (as := [.ref 108, .int q5, .int q8]) (rest := []) (d' := 2) rfl (by omega) rfl rfl (t_l_work q5 q8 M q9 e_q9) ?_
            refine am_Y.run (k := 3) (pc' := 10) (lv' := [(4, .int (x4 + (1 : Int32))), (3, .int (x3 + (1 : Int32))), (5, .int q5), (0, .ref 108), (1, .ref 125)]) (st' := []) (h' := hp q9) rfl ?_
            refine am_Y.weak (lv2 := [(0, .ref 108), (1, .ref 125), (3, .int (x3 + (1 : Int32))), (4, .int (x4 + (1 : Int32)))]) rfl rfl ⟨rfl, rfl, rfl, rfl, trivial⟩ ?_
            exact ih (x3 + (1 : Int32)) (x4 + (1 : Int32)) q9 _ _ h
set_option maxRecDepth 100000 in
theorem t_l_run_125 {S : Nat × (Nat → Int32)} (N : Nat) (x2 : Int32) (M : Mem) (r : Int32) (M' : Mem) (h : f_l_run N 125 x2 M = some (r, M')) : am_Y S 3 0 0 am_M245 0 [(0, .ref 108), (1, .ref 125), (2, .int x2)] [] (hp M) (some (.int r)) (hp M') := by
  rw [f_l_run] at h
  refine am_Y.run (k := 3) (pc' := 5) (lv' := [(0, .ref 108), (1, .ref 125), (2, .int x2)]) (st' := []) (h' := hp (si M 108 2 (0 : Int32))) rfl ?_
  obtain ⟨q1, e_q1, h⟩ := Option.bind_eq_some_iff.mp h
  rw [Option.some.inj e_q1]
  refine am_Y.run (k := 4) (pc' := 10) (lv' := [(4, .int (0 : Int32)), (3, .int x2), (0, .ref 108), (1, .ref 125), (2, .int x2)]) (st' := []) (h' := hp q1) rfl ?_
  refine am_Y.weak (lv2 := [(0, .ref 108), (1, .ref 125), (3, .int x2), (4, .int (0 : Int32))]) rfl rfl ⟨rfl, rfl, rfl, rfl, trivial⟩ ?_
  exact t_l_run_10_125 N N x2 (0 : Int32) q1 _ _ h
set_option maxRecDepth 100000 in
theorem t_l_whenFalls_108_6_a_86_113 {S : Nat × (Nat → Int32)} (N : Nat) (x5 : Int32) (x6 : Int32) (M : Mem) (r : Int32) (M' : Mem) (h : f_l_whenFalls_108_6_a_86 N 113 x5 x6 M = some (r, M')) : am_Y S 4 0 0 am_M144 86 [(0, .ref 108), (2, .ref 113), (5, .int x5), (6, .int x6)] [] (hp M) (some (.int r)) (hp M') := by
  rw [f_l_whenFalls_108_6_a_86] at h
  refine am_Y.run (k := 2) (pc' := 89) (lv' := [(0, .ref 108), (2, .ref 113), (5, .int x5), (6, .int x6)]) (st' := [.int (13 : Int32), .ref 113]) (h' := hp M) rfl ?_
  obtain ⟨q5, e_q5, h⟩ := Option.bind_eq_some_iff.mp h
  refine am_Y.call0 (M' := am_M244) (as := [.ref 113, .int (13 : Int32)]) (rest := []) (d' := 1) rfl (by omega) rfl rfl (t_p_startOf_a_113 (13 : Int32) M q5 e_q5) ?_
  refine am_Y.run (k := 1) (pc' := 93) (lv' := [(0, .ref 108), (2, .ref 113), (5, .int x5), (6, .int x6)]) (st' := [.int (-1 : Int32), .int q5]) (h' := hp M) rfl ?_
  refine am_Y.br (c := q5 = (-1 : Int32)) _ (t := 118) (u := 96) (lv' := [(0, .ref 108), (2, .ref 113), (5, .int x5), (6, .int x6)]) (st' := []) (h' := hp M) rfl (fun hc => ?_) (fun hc => ?_)
  · replace h := (if_pos hc).symm.trans h
    refine am_Y.run (k := 3) (pc' := 123) (lv' := [(0, .ref 108), (2, .ref 113), (5, .int x5), (6, .int x6)]) (st' := [.int (x6 + x5)]) (h' := hp M) rfl ?_
    obtain ⟨rfl, rfl⟩ := Prod.mk.inj (Option.some.inj h)
    exact am_Y.ret rfl
  · replace h := (if_neg hc).symm.trans h
    refine am_Y.run (k := 6) (pc' := 104) (lv' := [(0, .ref 108), (2, .ref 113), (5, .int x5), (6, .int x6)]) (st' := [.int (13 : Int32), .ref 113, .ref 113, .ref 108, .int (99 : Int32), .int (0 : Int32)]) (h' := hp M) rfl ?_
    obtain ⟨q6, e_q6, h⟩ := Option.bind_eq_some_iff.mp h
    refine am_Y.call0 (M' := am_M244) (as := [.ref 113, .int (13 : Int32)]) (rest := [.ref 113, .ref 108, .int (99 : Int32), .int (0 : Int32)]) (d' := 1) rfl (by omega) rfl rfl (t_p_startOf_a_113 (13 : Int32) M q6 e_q6) ?_
    obtain ⟨q7, e_q7, h⟩ := Option.bind_eq_some_iff.mp h
    refine am_Y.call0 (M' := am_M245) (as := [.ref 108, .ref 113, .int q6]) (rest := [.int (99 : Int32), .int (0 : Int32)]) (d' := 3) rfl (by omega) rfl rfl (t_l_run_113 N q6 M q7.1 q7.2 e_q7) ?_
    refine am_Y.call0 (M' := am_M242) (as := [.int (99 : Int32), .int q7.1]) (rest := [.int (0 : Int32)]) (d' := 0) rfl (by omega) rfl rfl (t_k_min0 (99 : Int32) q7.1 q7.2 _ rfl) ?_
    refine am_Y.call0 (M' := am_M246) (as := [.int (0 : Int32), .int (f_k_min0 (99 : Int32) q7.1 q7.2)]) (rest := []) (d' := 0) rfl (by omega) rfl rfl (t_k_max0 (0 : Int32) (f_k_min0 (99 : Int32) q7.1 q7.2) q7.2 _ rfl) ?_
    refine am_Y.run (k := 4) (pc' := 123) (lv' := [(5, .int (f_k_max0 (0 : Int32) (f_k_min0 (99 : Int32) q7.1 q7.2) q7.2)), (0, .ref 108), (2, .ref 113), (6, .int x6)]) (st' := [.int (x6 + (f_k_max0 (0 : Int32) (f_k_min0 (99 : Int32) q7.1 q7.2) q7.2))]) (h' := hp q7.2) rfl ?_
    obtain ⟨rfl, rfl⟩ := Prod.mk.inj (Option.some.inj h)
    exact am_Y.ret rfl
set_option maxRecDepth 100000 in
theorem t_l_whenFalls_108_6_a_31_113 {S : Nat × (Nat → Int32)} (N : Nat) (x3 : Int32) (x4 : Int32) (s0 : Int32) (M : Mem) (r : Int32) (M' : Mem) (h : f_l_whenFalls_108_6_a_31 N 113 x3 x4 s0 M = some (r, M')) : am_Y S 4 0 0 am_M144 31 [(0, .ref 108), (1, .ref 6), (2, .ref 113), (3, .int x3), (4, .int x4)] [.int s0] (hp M) (some (.int r)) (hp M') := by
  rw [f_l_whenFalls_108_6_a_31] at h
  refine am_Y.run (k := 3) (pc' := 37) (lv' := [(5, .int s0), (0, .ref 108), (1, .ref 6), (2, .ref 113), (3, .int x3), (4, .int x4)]) (st' := [.ref 11]) (h' := hp M) rfl ?_
  refine am_Y.call0 (M' := am_M121) (as := [.ref 11]) (rest := []) (d' := 0) rfl (by omega) rfl rfl (t_e_moment M _ rfl) ?_
  refine am_Y.run (k := 7) (pc' := 57) (lv' := [(6, .int (f_e_moment M)), (5, .int s0), (0, .ref 108), (1, .ref 6), (2, .ref 113), (3, .int x3), (4, .int x4)]) (st' := [.int x4, .int x3, .ref 6, .ref 108]) (h' := hp M) rfl ?_
  obtain ⟨q1, e_q1, h⟩ := Option.bind_eq_some_iff.mp h
  refine am_Y.call0 (M' := am_M243) (as := [.ref 108, .ref 6, .int x3, .int x4]) (rest := []) (d' := 3) rfl (by omega) rfl rfl (t_l_nameSpeaker N x3 x4 M q1 e_q1) ?_
  refine am_Y.run (k := 2) (pc' := 63) (lv' := [(6, .int (f_e_moment M)), (5, .int s0), (0, .ref 108), (1, .ref 6), (2, .ref 113), (3, .int x3), (4, .int x4)]) (st' := [.int (12 : Int32), .ref 113]) (h' := hp q1) rfl ?_
  obtain ⟨q2, e_q2, h⟩ := Option.bind_eq_some_iff.mp h
  refine am_Y.call0 (M' := am_M244) (as := [.ref 113, .int (12 : Int32)]) (rest := []) (d' := 1) rfl (by omega) rfl rfl (t_p_startOf_a_113 (12 : Int32) q1 q2 e_q2) ?_
  refine am_Y.run (k := 1) (pc' := 67) (lv' := [(6, .int (f_e_moment M)), (5, .int s0), (0, .ref 108), (1, .ref 6), (2, .ref 113), (3, .int x3), (4, .int x4)]) (st' := [.int (-1 : Int32), .int q2]) (h' := hp q1) rfl ?_
  refine am_Y.br (c := q2 = (-1 : Int32)) _ (t := 86) (u := 70) (lv' := [(6, .int (f_e_moment M)), (5, .int s0), (0, .ref 108), (1, .ref 6), (2, .ref 113), (3, .int x3), (4, .int x4)]) (st' := []) (h' := hp q1) rfl (fun hc => ?_) (fun hc => ?_)
  · replace h := (if_pos hc).symm.trans h
    refine am_Y.weak (lv2 := [(0, .ref 108), (2, .ref 113), (5, .int s0), (6, .int (f_e_moment M))]) rfl rfl ⟨rfl, rfl, rfl, rfl, trivial⟩ ?_
    exact t_l_whenFalls_108_6_a_86_113 N s0 (f_e_moment M) q1 _ _ h
  · replace h := (if_neg hc).symm.trans h
    refine am_Y.run (k := 4) (pc' := 75) (lv' := [(6, .int (f_e_moment M)), (5, .int s0), (0, .ref 108), (1, .ref 6), (2, .ref 113), (3, .int x3), (4, .int x4)]) (st' := [.int (12 : Int32), .ref 113, .ref 113, .ref 108]) (h' := hp q1) rfl ?_
    obtain ⟨q3, e_q3, h⟩ := Option.bind_eq_some_iff.mp h
    refine am_Y.call0 (M' := am_M244) (as := [.ref 113, .int (12 : Int32)]) (rest := [.ref 113, .ref 108]) (d' := 1) rfl (by omega) rfl rfl (t_p_startOf_a_113 (12 : Int32) q1 q3 e_q3) ?_
    obtain ⟨q4, e_q4, h⟩ := Option.bind_eq_some_iff.mp h
    refine am_Y.call0 (M' := am_M245) (as := [.ref 108, .ref 113, .int q3]) (rest := []) (d' := 3) rfl (by omega) rfl rfl (t_l_run_113 N q3 q1 q4.1 q4.2 e_q4) ?_
    refine am_Y.br (c := q4.1 = (0 : Int32)) _ (t := 84) (u := 86) (lv' := [(6, .int (f_e_moment M)), (5, .int s0), (0, .ref 108), (1, .ref 6), (2, .ref 113), (3, .int x3), (4, .int x4)]) (st' := []) (h' := hp q4.2) rfl (fun hc => ?_) (fun hc => ?_)
    · replace h := (if_pos hc).symm.trans h
      refine am_Y.run (k := 1) (pc' := 85) (lv' := [(6, .int (f_e_moment M)), (5, .int s0), (0, .ref 108), (1, .ref 6), (2, .ref 113), (3, .int x3), (4, .int x4)]) (st' := [.int (-1 : Int32)]) (h' := hp q4.2) rfl ?_
      obtain ⟨rfl, rfl⟩ := Prod.mk.inj (Option.some.inj h)
      exact am_Y.ret rfl
    · replace h := (if_neg hc).symm.trans h
      refine am_Y.weak (lv2 := [(0, .ref 108), (2, .ref 113), (5, .int s0), (6, .int (f_e_moment M))]) rfl rfl ⟨rfl, rfl, rfl, rfl, trivial⟩ ?_
      exact t_l_whenFalls_108_6_a_86_113 N s0 (f_e_moment M) q4.2 _ _ h
set_option maxRecDepth 100000 in
theorem t_l_whenFalls_108_6_a_113 {S : Nat × (Nat → Int32)} (N : Nat) (x3 : Int32) (x4 : Int32) (M : Mem) (r : Int32) (M' : Mem) (h : f_l_whenFalls_108_6_a N 113 x3 x4 M = some (r, M')) : am_Y S 4 0 0 am_M144 0 [(0, .ref 108), (1, .ref 6), (2, .ref 113), (3, .int x3), (4, .int x4)] [] (hp M) (some (.int r)) (hp M') := by
  rw [f_l_whenFalls_108_6_a] at h
  refine am_Y.run (k := 3) (pc' := 5) (lv' := [(0, .ref 108), (1, .ref 6), (2, .ref 113), (3, .int x3), (4, .int x4)]) (st' := [.int x3, .ref 7]) (h' := hp M) rfl ?_
  refine am_Y.call0 (M' := am_M140) (as := [.ref 7, .int x3]) (rest := []) (d' := 1) rfl (by omega) rfl rfl (t_g_knows x3 M _ rfl) ?_
  refine am_Y.br (c := (f_g_knows x3 M) = (0 : Int32)) _ (t := 11) (u := 13) (lv' := [(0, .ref 108), (1, .ref 6), (2, .ref 113), (3, .int x3), (4, .int x4)]) (st' := []) (h' := hp M) rfl (fun hc => ?_) (fun hc => ?_)
  · replace h := (if_pos hc).symm.trans h
    refine am_Y.run (k := 1) (pc' := 12) (lv' := [(0, .ref 108), (1, .ref 6), (2, .ref 113), (3, .int x3), (4, .int x4)]) (st' := [.int (-1 : Int32)]) (h' := hp M) rfl ?_
    obtain ⟨rfl, rfl⟩ := Prod.mk.inj (Option.some.inj h)
    exact am_Y.ret rfl
  · replace h := (if_neg hc).symm.trans h
    refine am_Y.run (k := 4) (pc' := 21) (lv' := [(0, .ref 108), (1, .ref 6), (2, .ref 113), (3, .int x3), (4, .int x4)]) (st' := [.int x3, .ref 9]) (h' := hp M) rfl ?_
    obtain ⟨g, h⟩ := am_itg h
    refine am_Y.iald (a := 4) (n := 8) rfl rfl g ?_
    refine am_Y.run (k := 1) (pc' := 23) (lv' := [(0, .ref 108), (1, .ref 6), (2, .ref 113), (3, .int x3), (4, .int x4)]) (st' := [.int (3 : Int32), .int (gi M 9 (x3).toNatClampNeg)]) (h' := hp M) rfl ?_
    refine am_Y.br (c := (3 : Int32) ≤ (gi M 9 (x3).toNatClampNeg)) _ (t := 30) (u := 26) (lv' := [(0, .ref 108), (1, .ref 6), (2, .ref 113), (3, .int x3), (4, .int x4)]) (st' := []) (h' := hp M) rfl (fun hc => ?_) (fun hc => ?_)
    · replace h := (if_pos hc).symm.trans h
      refine am_Y.run (k := 1) (pc' := 31) (lv' := [(0, .ref 108), (1, .ref 6), (2, .ref 113), (3, .int x3), (4, .int x4)]) (st' := [.int (0 : Int32)]) (h' := hp M) rfl ?_
      refine am_Y.weak (lv2 := [(0, .ref 108), (1, .ref 6), (2, .ref 113), (3, .int x3), (4, .int x4)]) rfl rfl ⟨rfl, rfl, rfl, rfl, rfl, trivial⟩ ?_
      exact t_l_whenFalls_108_6_a_31_113 N x3 x4 (0 : Int32) M _ _ h
    · replace h := (if_neg hc).symm.trans h
      refine am_Y.run (k := 2) (pc' := 31) (lv' := [(0, .ref 108), (1, .ref 6), (2, .ref 113), (3, .int x3), (4, .int x4)]) (st' := [.int (3 : Int32)]) (h' := hp M) rfl ?_
      refine am_Y.weak (lv2 := [(0, .ref 108), (1, .ref 6), (2, .ref 113), (3, .int x3), (4, .int x4)]) rfl rfl ⟨rfl, rfl, rfl, rfl, rfl, trivial⟩ ?_
      exact t_l_whenFalls_108_6_a_31_113 N x3 x4 (3 : Int32) M _ _ h
set_option maxRecDepth 100000 in
theorem t_l_whenFalls_108_6_a_86_117 {S : Nat × (Nat → Int32)} (N : Nat) (x5 : Int32) (x6 : Int32) (M : Mem) (r : Int32) (M' : Mem) (h : f_l_whenFalls_108_6_a_86 N 117 x5 x6 M = some (r, M')) : am_Y S 4 0 0 am_M144 86 [(0, .ref 108), (2, .ref 117), (5, .int x5), (6, .int x6)] [] (hp M) (some (.int r)) (hp M') := by
  rw [f_l_whenFalls_108_6_a_86] at h
  refine am_Y.run (k := 2) (pc' := 89) (lv' := [(0, .ref 108), (2, .ref 117), (5, .int x5), (6, .int x6)]) (st' := [.int (13 : Int32), .ref 117]) (h' := hp M) rfl ?_
  obtain ⟨q5, e_q5, h⟩ := Option.bind_eq_some_iff.mp h
  refine am_Y.call0 (M' := am_M244) (as := [.ref 117, .int (13 : Int32)]) (rest := []) (d' := 1) rfl (by omega) rfl rfl (t_p_startOf_a_117 (13 : Int32) M q5 e_q5) ?_
  refine am_Y.run (k := 1) (pc' := 93) (lv' := [(0, .ref 108), (2, .ref 117), (5, .int x5), (6, .int x6)]) (st' := [.int (-1 : Int32), .int q5]) (h' := hp M) rfl ?_
  refine am_Y.br (c := q5 = (-1 : Int32)) _ (t := 118) (u := 96) (lv' := [(0, .ref 108), (2, .ref 117), (5, .int x5), (6, .int x6)]) (st' := []) (h' := hp M) rfl (fun hc => ?_) (fun hc => ?_)
  · replace h := (if_pos hc).symm.trans h
    refine am_Y.run (k := 3) (pc' := 123) (lv' := [(0, .ref 108), (2, .ref 117), (5, .int x5), (6, .int x6)]) (st' := [.int (x6 + x5)]) (h' := hp M) rfl ?_
    obtain ⟨rfl, rfl⟩ := Prod.mk.inj (Option.some.inj h)
    exact am_Y.ret rfl
  · replace h := (if_neg hc).symm.trans h
    refine am_Y.run (k := 6) (pc' := 104) (lv' := [(0, .ref 108), (2, .ref 117), (5, .int x5), (6, .int x6)]) (st' := [.int (13 : Int32), .ref 117, .ref 117, .ref 108, .int (99 : Int32), .int (0 : Int32)]) (h' := hp M) rfl ?_
    obtain ⟨q6, e_q6, h⟩ := Option.bind_eq_some_iff.mp h
    refine am_Y.call0 (M' := am_M244) (as := [.ref 117, .int (13 : Int32)]) (rest := [.ref 117, .ref 108, .int (99 : Int32), .int (0 : Int32)]) (d' := 1) rfl (by omega) rfl rfl (t_p_startOf_a_117 (13 : Int32) M q6 e_q6) ?_
    obtain ⟨q7, e_q7, h⟩ := Option.bind_eq_some_iff.mp h
    refine am_Y.call0 (M' := am_M245) (as := [.ref 108, .ref 117, .int q6]) (rest := [.int (99 : Int32), .int (0 : Int32)]) (d' := 3) rfl (by omega) rfl rfl (t_l_run_117 N q6 M q7.1 q7.2 e_q7) ?_
    refine am_Y.call0 (M' := am_M242) (as := [.int (99 : Int32), .int q7.1]) (rest := [.int (0 : Int32)]) (d' := 0) rfl (by omega) rfl rfl (t_k_min0 (99 : Int32) q7.1 q7.2 _ rfl) ?_
    refine am_Y.call0 (M' := am_M246) (as := [.int (0 : Int32), .int (f_k_min0 (99 : Int32) q7.1 q7.2)]) (rest := []) (d' := 0) rfl (by omega) rfl rfl (t_k_max0 (0 : Int32) (f_k_min0 (99 : Int32) q7.1 q7.2) q7.2 _ rfl) ?_
    refine am_Y.run (k := 4) (pc' := 123) (lv' := [(5, .int (f_k_max0 (0 : Int32) (f_k_min0 (99 : Int32) q7.1 q7.2) q7.2)), (0, .ref 108), (2, .ref 117), (6, .int x6)]) (st' := [.int (x6 + (f_k_max0 (0 : Int32) (f_k_min0 (99 : Int32) q7.1 q7.2) q7.2))]) (h' := hp q7.2) rfl ?_
    obtain ⟨rfl, rfl⟩ := Prod.mk.inj (Option.some.inj h)
    exact am_Y.ret rfl
set_option maxRecDepth 100000 in
theorem t_l_whenFalls_108_6_a_31_117 {S : Nat × (Nat → Int32)} (N : Nat) (x3 : Int32) (x4 : Int32) (s0 : Int32) (M : Mem) (r : Int32) (M' : Mem) (h : f_l_whenFalls_108_6_a_31 N 117 x3 x4 s0 M = some (r, M')) : am_Y S 4 0 0 am_M144 31 [(0, .ref 108), (1, .ref 6), (2, .ref 117), (3, .int x3), (4, .int x4)] [.int s0] (hp M) (some (.int r)) (hp M') := by
  rw [f_l_whenFalls_108_6_a_31] at h
  refine am_Y.run (k := 3) (pc' := 37) (lv' := [(5, .int s0), (0, .ref 108), (1, .ref 6), (2, .ref 117), (3, .int x3), (4, .int x4)]) (st' := [.ref 11]) (h' := hp M) rfl ?_
  refine am_Y.call0 (M' := am_M121) (as := [.ref 11]) (rest := []) (d' := 0) rfl (by omega) rfl rfl (t_e_moment M _ rfl) ?_
  refine am_Y.run (k := 7) (pc' := 57) (lv' := [(6, .int (f_e_moment M)), (5, .int s0), (0, .ref 108), (1, .ref 6), (2, .ref 117), (3, .int x3), (4, .int x4)]) (st' := [.int x4, .int x3, .ref 6, .ref 108]) (h' := hp M) rfl ?_
  obtain ⟨q1, e_q1, h⟩ := Option.bind_eq_some_iff.mp h
  refine am_Y.call0 (M' := am_M243) (as := [.ref 108, .ref 6, .int x3, .int x4]) (rest := []) (d' := 3) rfl (by omega) rfl rfl (t_l_nameSpeaker N x3 x4 M q1 e_q1) ?_
  refine am_Y.run (k := 2) (pc' := 63) (lv' := [(6, .int (f_e_moment M)), (5, .int s0), (0, .ref 108), (1, .ref 6), (2, .ref 117), (3, .int x3), (4, .int x4)]) (st' := [.int (12 : Int32), .ref 117]) (h' := hp q1) rfl ?_
  obtain ⟨q2, e_q2, h⟩ := Option.bind_eq_some_iff.mp h
  refine am_Y.call0 (M' := am_M244) (as := [.ref 117, .int (12 : Int32)]) (rest := []) (d' := 1) rfl (by omega) rfl rfl (t_p_startOf_a_117 (12 : Int32) q1 q2 e_q2) ?_
  refine am_Y.run (k := 1) (pc' := 67) (lv' := [(6, .int (f_e_moment M)), (5, .int s0), (0, .ref 108), (1, .ref 6), (2, .ref 117), (3, .int x3), (4, .int x4)]) (st' := [.int (-1 : Int32), .int q2]) (h' := hp q1) rfl ?_
  refine am_Y.br (c := q2 = (-1 : Int32)) _ (t := 86) (u := 70) (lv' := [(6, .int (f_e_moment M)), (5, .int s0), (0, .ref 108), (1, .ref 6), (2, .ref 117), (3, .int x3), (4, .int x4)]) (st' := []) (h' := hp q1) rfl (fun hc => ?_) (fun hc => ?_)
  · replace h := (if_pos hc).symm.trans h
    refine am_Y.weak (lv2 := [(0, .ref 108), (2, .ref 117), (5, .int s0), (6, .int (f_e_moment M))]) rfl rfl ⟨rfl, rfl, rfl, rfl, trivial⟩ ?_
    exact t_l_whenFalls_108_6_a_86_117 N s0 (f_e_moment M) q1 _ _ h
  · replace h := (if_neg hc).symm.trans h
    refine am_Y.run (k := 4) (pc' := 75) (lv' := [(6, .int (f_e_moment M)), (5, .int s0), (0, .ref 108), (1, .ref 6), (2, .ref 117), (3, .int x3), (4, .int x4)]) (st' := [.int (12 : Int32), .ref 117, .ref 117, .ref 108]) (h' := hp q1) rfl ?_
    obtain ⟨q3, e_q3, h⟩ := Option.bind_eq_some_iff.mp h
    refine am_Y.call0 (M' := am_M244) (as := [.ref 117, .int (12 : Int32)]) (rest := [.ref 117, .ref 108]) (d' := 1) rfl (by omega) rfl rfl (t_p_startOf_a_117 (12 : Int32) q1 q3 e_q3) ?_
    obtain ⟨q4, e_q4, h⟩ := Option.bind_eq_some_iff.mp h
    refine am_Y.call0 (M' := am_M245) (as := [.ref 108, .ref 117, .int q3]) (rest := []) (d' := 3) rfl (by omega) rfl rfl (t_l_run_117 N q3 q1 q4.1 q4.2 e_q4) ?_
    refine am_Y.br (c := q4.1 = (0 : Int32)) _ (t := 84) (u := 86) (lv' := [(6, .int (f_e_moment M)), (5, .int s0), (0, .ref 108), (1, .ref 6), (2, .ref 117), (3, .int x3), (4, .int x4)]) (st' := []) (h' := hp q4.2) rfl (fun hc => ?_) (fun hc => ?_)
    · replace h := (if_pos hc).symm.trans h
      refine am_Y.run (k := 1) (pc' := 85) (lv' := [(6, .int (f_e_moment M)), (5, .int s0), (0, .ref 108), (1, .ref 6), (2, .ref 117), (3, .int x3), (4, .int x4)]) (st' := [.int (-1 : Int32)]) (h' := hp q4.2) rfl ?_
      obtain ⟨rfl, rfl⟩ := Prod.mk.inj (Option.some.inj h)
      exact am_Y.ret rfl
    · replace h := (if_neg hc).symm.trans h
      refine am_Y.weak (lv2 := [(0, .ref 108), (2, .ref 117), (5, .int s0), (6, .int (f_e_moment M))]) rfl rfl ⟨rfl, rfl, rfl, rfl, trivial⟩ ?_
      exact t_l_whenFalls_108_6_a_86_117 N s0 (f_e_moment M) q4.2 _ _ h
set_option maxRecDepth 100000 in
theorem t_l_whenFalls_108_6_a_117 {S : Nat × (Nat → Int32)} (N : Nat) (x3 : Int32) (x4 : Int32) (M : Mem) (r : Int32) (M' : Mem) (h : f_l_whenFalls_108_6_a N 117 x3 x4 M = some (r, M')) : am_Y S 4 0 0 am_M144 0 [(0, .ref 108), (1, .ref 6), (2, .ref 117), (3, .int x3), (4, .int x4)] [] (hp M) (some (.int r)) (hp M') := by
  rw [f_l_whenFalls_108_6_a] at h
  refine am_Y.run (k := 3) (pc' := 5) (lv' := [(0, .ref 108), (1, .ref 6), (2, .ref 117), (3, .int x3), (4, .int x4)]) (st' := [.int x3, .ref 7]) (h' := hp M) rfl ?_
  refine am_Y.call0 (M' := am_M140) (as := [.ref 7, .int x3]) (rest := []) (d' := 1) rfl (by omega) rfl rfl (t_g_knows x3 M _ rfl) ?_
  refine am_Y.br (c := (f_g_knows x3 M) = (0 : Int32)) _ (t := 11) (u := 13) (lv' := [(0, .ref 108), (1, .ref 6), (2, .ref 117), (3, .int x3), (4, .int x4)]) (st' := []) (h' := hp M) rfl (fun hc => ?_) (fun hc => ?_)
  · replace h := (if_pos hc).symm.trans h
    refine am_Y.run (k := 1) (pc' := 12) (lv' := [(0, .ref 108), (1, .ref 6), (2, .ref 117), (3, .int x3), (4, .int x4)]) (st' := [.int (-1 : Int32)]) (h' := hp M) rfl ?_
    obtain ⟨rfl, rfl⟩ := Prod.mk.inj (Option.some.inj h)
    exact am_Y.ret rfl
  · replace h := (if_neg hc).symm.trans h
    refine am_Y.run (k := 4) (pc' := 21) (lv' := [(0, .ref 108), (1, .ref 6), (2, .ref 117), (3, .int x3), (4, .int x4)]) (st' := [.int x3, .ref 9]) (h' := hp M) rfl ?_
    obtain ⟨g, h⟩ := am_itg h
    refine am_Y.iald (a := 4) (n := 8) rfl rfl g ?_
    refine am_Y.run (k := 1) (pc' := 23) (lv' := [(0, .ref 108), (1, .ref 6), (2, .ref 117), (3, .int x3), (4, .int x4)]) (st' := [.int (3 : Int32), .int (gi M 9 (x3).toNatClampNeg)]) (h' := hp M) rfl ?_
    refine am_Y.br (c := (3 : Int32) ≤ (gi M 9 (x3).toNatClampNeg)) _ (t := 30) (u := 26) (lv' := [(0, .ref 108), (1, .ref 6), (2, .ref 117), (3, .int x3), (4, .int x4)]) (st' := []) (h' := hp M) rfl (fun hc => ?_) (fun hc => ?_)
    · replace h := (if_pos hc).symm.trans h
      refine am_Y.run (k := 1) (pc' := 31) (lv' := [(0, .ref 108), (1, .ref 6), (2, .ref 117), (3, .int x3), (4, .int x4)]) (st' := [.int (0 : Int32)]) (h' := hp M) rfl ?_
      refine am_Y.weak (lv2 := [(0, .ref 108), (1, .ref 6), (2, .ref 117), (3, .int x3), (4, .int x4)]) rfl rfl ⟨rfl, rfl, rfl, rfl, rfl, trivial⟩ ?_
      exact t_l_whenFalls_108_6_a_31_117 N x3 x4 (0 : Int32) M _ _ h
    · replace h := (if_neg hc).symm.trans h
      refine am_Y.run (k := 2) (pc' := 31) (lv' := [(0, .ref 108), (1, .ref 6), (2, .ref 117), (3, .int x3), (4, .int x4)]) (st' := [.int (3 : Int32)]) (h' := hp M) rfl ?_
      refine am_Y.weak (lv2 := [(0, .ref 108), (1, .ref 6), (2, .ref 117), (3, .int x3), (4, .int x4)]) rfl rfl ⟨rfl, rfl, rfl, rfl, rfl, trivial⟩ ?_
      exact t_l_whenFalls_108_6_a_31_117 N x3 x4 (3 : Int32) M _ _ h
set_option maxRecDepth 100000 in
theorem t_l_whenFalls_108_6_a_86_121 {S : Nat × (Nat → Int32)} (N : Nat) (x5 : Int32) (x6 : Int32) (M : Mem) (r : Int32) (M' : Mem) (h : f_l_whenFalls_108_6_a_86 N 121 x5 x6 M = some (r, M')) : am_Y S 4 0 0 am_M144 86 [(0, .ref 108), (2, .ref 121), (5, .int x5), (6, .int x6)] [] (hp M) (some (.int r)) (hp M') := by
  rw [f_l_whenFalls_108_6_a_86] at h
  refine am_Y.run (k := 2) (pc' := 89) (lv' := [(0, .ref 108), (2, .ref 121), (5, .int x5), (6, .int x6)]) (st' := [.int (13 : Int32), .ref 121]) (h' := hp M) rfl ?_
  obtain ⟨q5, e_q5, h⟩ := Option.bind_eq_some_iff.mp h
  refine am_Y.call0 (M' := am_M244) (as := [.ref 121, .int (13 : Int32)]) (rest := []) (d' := 1) rfl (by omega) rfl rfl (t_p_startOf_a_121 (13 : Int32) M q5 e_q5) ?_
  refine am_Y.run (k := 1) (pc' := 93) (lv' := [(0, .ref 108), (2, .ref 121), (5, .int x5), (6, .int x6)]) (st' := [.int (-1 : Int32), .int q5]) (h' := hp M) rfl ?_
  refine am_Y.br (c := q5 = (-1 : Int32)) _ (t := 118) (u := 96) (lv' := [(0, .ref 108), (2, .ref 121), (5, .int x5), (6, .int x6)]) (st' := []) (h' := hp M) rfl (fun hc => ?_) (fun hc => ?_)
  · replace h := (if_pos hc).symm.trans h
    refine am_Y.run (k := 3) (pc' := 123) (lv' := [(0, .ref 108), (2, .ref 121), (5, .int x5), (6, .int x6)]) (st' := [.int (x6 + x5)]) (h' := hp M) rfl ?_
    obtain ⟨rfl, rfl⟩ := Prod.mk.inj (Option.some.inj h)
    exact am_Y.ret rfl
  · replace h := (if_neg hc).symm.trans h
    refine am_Y.run (k := 6) (pc' := 104) (lv' := [(0, .ref 108), (2, .ref 121), (5, .int x5), (6, .int x6)]) (st' := [.int (13 : Int32), .ref 121, .ref 121, .ref 108, .int (99 : Int32), .int (0 : Int32)]) (h' := hp M) rfl ?_
    obtain ⟨q6, e_q6, h⟩ := Option.bind_eq_some_iff.mp h
    refine am_Y.call0 (M' := am_M244) (as := [.ref 121, .int (13 : Int32)]) (rest := [.ref 121, .ref 108, .int (99 : Int32), .int (0 : Int32)]) (d' := 1) rfl (by omega) rfl rfl (t_p_startOf_a_121 (13 : Int32) M q6 e_q6) ?_
    obtain ⟨q7, e_q7, h⟩ := Option.bind_eq_some_iff.mp h
    refine am_Y.call0 (M' := am_M245) (as := [.ref 108, .ref 121, .int q6]) (rest := [.int (99 : Int32), .int (0 : Int32)]) (d' := 3) rfl (by omega) rfl rfl (t_l_run_121 N q6 M q7.1 q7.2 e_q7) ?_
    refine am_Y.call0 (M' := am_M242) (as := [.int (99 : Int32), .int q7.1]) (rest := [.int (0 : Int32)]) (d' := 0) rfl (by omega) rfl rfl (t_k_min0 (99 : Int32) q7.1 q7.2 _ rfl) ?_
    refine am_Y.call0 (M' := am_M246) (as := [.int (0 : Int32), .int (f_k_min0 (99 : Int32) q7.1 q7.2)]) (rest := []) (d' := 0) rfl (by omega) rfl rfl (t_k_max0 (0 : Int32) (f_k_min0 (99 : Int32) q7.1 q7.2) q7.2 _ rfl) ?_
    refine am_Y.run (k := 4) (pc' := 123) (lv' := [(5, .int (f_k_max0 (0 : Int32) (f_k_min0 (99 : Int32) q7.1 q7.2) q7.2)), (0, .ref 108), (2, .ref 121), (6, .int x6)]) (st' := [.int (x6 + (f_k_max0 (0 : Int32) (f_k_min0 (99 : Int32) q7.1 q7.2) q7.2))]) (h' := hp q7.2) rfl ?_
    obtain ⟨rfl, rfl⟩ := Prod.mk.inj (Option.some.inj h)
    exact am_Y.ret rfl
set_option maxRecDepth 100000 in
theorem t_l_whenFalls_108_6_a_31_121 {S : Nat × (Nat → Int32)} (N : Nat) (x3 : Int32) (x4 : Int32) (s0 : Int32) (M : Mem) (r : Int32) (M' : Mem) (h : f_l_whenFalls_108_6_a_31 N 121 x3 x4 s0 M = some (r, M')) : am_Y S 4 0 0 am_M144 31 [(0, .ref 108), (1, .ref 6), (2, .ref 121), (3, .int x3), (4, .int x4)] [.int s0] (hp M) (some (.int r)) (hp M') := by
  rw [f_l_whenFalls_108_6_a_31] at h
  refine am_Y.run (k := 3) (pc' := 37) (lv' := [(5, .int s0), (0, .ref 108), (1, .ref 6), (2, .ref 121), (3, .int x3), (4, .int x4)]) (st' := [.ref 11]) (h' := hp M) rfl ?_
  refine am_Y.call0 (M' := am_M121) (as := [.ref 11]) (rest := []) (d' := 0) rfl (by omega) rfl rfl (t_e_moment M _ rfl) ?_
  refine am_Y.run (k := 7) (pc' := 57) (lv' := [(6, .int (f_e_moment M)), (5, .int s0), (0, .ref 108), (1, .ref 6), (2, .ref 121), (3, .int x3), (4, .int x4)]) (st' := [.int x4, .int x3, .ref 6, .ref 108]) (h' := hp M) rfl ?_
  obtain ⟨q1, e_q1, h⟩ := Option.bind_eq_some_iff.mp h
  refine am_Y.call0 (M' := am_M243) (as := [.ref 108, .ref 6, .int x3, .int x4]) (rest := []) (d' := 3) rfl (by omega) rfl rfl (t_l_nameSpeaker N x3 x4 M q1 e_q1) ?_
  refine am_Y.run (k := 2) (pc' := 63) (lv' := [(6, .int (f_e_moment M)), (5, .int s0), (0, .ref 108), (1, .ref 6), (2, .ref 121), (3, .int x3), (4, .int x4)]) (st' := [.int (12 : Int32), .ref 121]) (h' := hp q1) rfl ?_
  obtain ⟨q2, e_q2, h⟩ := Option.bind_eq_some_iff.mp h
  refine am_Y.call0 (M' := am_M244) (as := [.ref 121, .int (12 : Int32)]) (rest := []) (d' := 1) rfl (by omega) rfl rfl (t_p_startOf_a_121 (12 : Int32) q1 q2 e_q2) ?_
  refine am_Y.run (k := 1) (pc' := 67) (lv' := [(6, .int (f_e_moment M)), (5, .int s0), (0, .ref 108), (1, .ref 6), (2, .ref 121), (3, .int x3), (4, .int x4)]) (st' := [.int (-1 : Int32), .int q2]) (h' := hp q1) rfl ?_
  refine am_Y.br (c := q2 = (-1 : Int32)) _ (t := 86) (u := 70) (lv' := [(6, .int (f_e_moment M)), (5, .int s0), (0, .ref 108), (1, .ref 6), (2, .ref 121), (3, .int x3), (4, .int x4)]) (st' := []) (h' := hp q1) rfl (fun hc => ?_) (fun hc => ?_)
  · replace h := (if_pos hc).symm.trans h
    refine am_Y.weak (lv2 := [(0, .ref 108), (2, .ref 121), (5, .int s0), (6, .int (f_e_moment M))]) rfl rfl ⟨rfl, rfl, rfl, rfl, trivial⟩ ?_
    exact t_l_whenFalls_108_6_a_86_121 N s0 (f_e_moment M) q1 _ _ h
  · replace h := (if_neg hc).symm.trans h
    refine am_Y.run (k := 4) (pc' := 75) (lv' := [(6, .int (f_e_moment M)), (5, .int s0), (0, .ref 108), (1, .ref 6), (2, .ref 121), (3, .int x3), (4, .int x4)]) (st' := [.int (12 : Int32), .ref 121, .ref 121, .ref 108]) (h' := hp q1) rfl ?_
    obtain ⟨q3, e_q3, h⟩ := Option.bind_eq_some_iff.mp h
    refine am_Y.call0 (M' := am_M244) (as := [.ref 121, .int (12 : Int32)]) (rest := [.ref 121, .ref 108]) (d' := 1) rfl (by omega) rfl rfl (t_p_startOf_a_121 (12 : Int32) q1 q3 e_q3) ?_
    obtain ⟨q4, e_q4, h⟩ := Option.bind_eq_some_iff.mp h
    refine am_Y.call0 (M' := am_M245) (as := [.ref 108, .ref 121, .int q3]) (rest := []) (d' := 3) rfl (by omega) rfl rfl (t_l_run_121 N q3 q1 q4.1 q4.2 e_q4) ?_
    refine am_Y.br (c := q4.1 = (0 : Int32)) _ (t := 84) (u := 86) (lv' := [(6, .int (f_e_moment M)), (5, .int s0), (0, .ref 108), (1, .ref 6), (2, .ref 121), (3, .int x3), (4, .int x4)]) (st' := []) (h' := hp q4.2) rfl (fun hc => ?_) (fun hc => ?_)
    · replace h := (if_pos hc).symm.trans h
      refine am_Y.run (k := 1) (pc' := 85) (lv' := [(6, .int (f_e_moment M)), (5, .int s0), (0, .ref 108), (1, .ref 6), (2, .ref 121), (3, .int x3), (4, .int x4)]) (st' := [.int (-1 : Int32)]) (h' := hp q4.2) rfl ?_
      obtain ⟨rfl, rfl⟩ := Prod.mk.inj (Option.some.inj h)
      exact am_Y.ret rfl
    · replace h := (if_neg hc).symm.trans h
      refine am_Y.weak (lv2 := [(0, .ref 108), (2, .ref 121), (5, .int s0), (6, .int (f_e_moment M))]) rfl rfl ⟨rfl, rfl, rfl, rfl, trivial⟩ ?_
      exact t_l_whenFalls_108_6_a_86_121 N s0 (f_e_moment M) q4.2 _ _ h
set_option maxRecDepth 100000 in
theorem t_l_whenFalls_108_6_a_121 {S : Nat × (Nat → Int32)} (N : Nat) (x3 : Int32) (x4 : Int32) (M : Mem) (r : Int32) (M' : Mem) (h : f_l_whenFalls_108_6_a N 121 x3 x4 M = some (r, M')) : am_Y S 4 0 0 am_M144 0 [(0, .ref 108), (1, .ref 6), (2, .ref 121), (3, .int x3), (4, .int x4)] [] (hp M) (some (.int r)) (hp M') := by
  rw [f_l_whenFalls_108_6_a] at h
  refine am_Y.run (k := 3) (pc' := 5) (lv' := [(0, .ref 108), (1, .ref 6), (2, .ref 121), (3, .int x3), (4, .int x4)]) (st' := [.int x3, .ref 7]) (h' := hp M) rfl ?_
  refine am_Y.call0 (M' := am_M140) (as := [.ref 7, .int x3]) (rest := []) (d' := 1) rfl (by omega) rfl rfl (t_g_knows x3 M _ rfl) ?_
  refine am_Y.br (c := (f_g_knows x3 M) = (0 : Int32)) _ (t := 11) (u := 13) (lv' := [(0, .ref 108), (1, .ref 6), (2, .ref 121), (3, .int x3), (4, .int x4)]) (st' := []) (h' := hp M) rfl (fun hc => ?_) (fun hc => ?_)
  · replace h := (if_pos hc).symm.trans h
    refine am_Y.run (k := 1) (pc' := 12) (lv' := [(0, .ref 108), (1, .ref 6), (2, .ref 121), (3, .int x3), (4, .int x4)]) (st' := [.int (-1 : Int32)]) (h' := hp M) rfl ?_
    obtain ⟨rfl, rfl⟩ := Prod.mk.inj (Option.some.inj h)
    exact am_Y.ret rfl
  · replace h := (if_neg hc).symm.trans h
    refine am_Y.run (k := 4) (pc' := 21) (lv' := [(0, .ref 108), (1, .ref 6), (2, .ref 121), (3, .int x3), (4, .int x4)]) (st' := [.int x3, .ref 9]) (h' := hp M) rfl ?_
    obtain ⟨g, h⟩ := am_itg h
    refine am_Y.iald (a := 4) (n := 8) rfl rfl g ?_
    refine am_Y.run (k := 1) (pc' := 23) (lv' := [(0, .ref 108), (1, .ref 6), (2, .ref 121), (3, .int x3), (4, .int x4)]) (st' := [.int (3 : Int32), .int (gi M 9 (x3).toNatClampNeg)]) (h' := hp M) rfl ?_
    refine am_Y.br (c := (3 : Int32) ≤ (gi M 9 (x3).toNatClampNeg)) _ (t := 30) (u := 26) (lv' := [(0, .ref 108), (1, .ref 6), (2, .ref 121), (3, .int x3), (4, .int x4)]) (st' := []) (h' := hp M) rfl (fun hc => ?_) (fun hc => ?_)
    · replace h := (if_pos hc).symm.trans h
      refine am_Y.run (k := 1) (pc' := 31) (lv' := [(0, .ref 108), (1, .ref 6), (2, .ref 121), (3, .int x3), (4, .int x4)]) (st' := [.int (0 : Int32)]) (h' := hp M) rfl ?_
      refine am_Y.weak (lv2 := [(0, .ref 108), (1, .ref 6), (2, .ref 121), (3, .int x3), (4, .int x4)]) rfl rfl ⟨rfl, rfl, rfl, rfl, rfl, trivial⟩ ?_
      exact t_l_whenFalls_108_6_a_31_121 N x3 x4 (0 : Int32) M _ _ h
    · replace h := (if_neg hc).symm.trans h
      refine am_Y.run (k := 2) (pc' := 31) (lv' := [(0, .ref 108), (1, .ref 6), (2, .ref 121), (3, .int x3), (4, .int x4)]) (st' := [.int (3 : Int32)]) (h' := hp M) rfl ?_
      refine am_Y.weak (lv2 := [(0, .ref 108), (1, .ref 6), (2, .ref 121), (3, .int x3), (4, .int x4)]) rfl rfl ⟨rfl, rfl, rfl, rfl, rfl, trivial⟩ ?_
      exact t_l_whenFalls_108_6_a_31_121 N x3 x4 (3 : Int32) M _ _ h
set_option maxRecDepth 100000 in
theorem t_l_whenFalls_108_6_a_86_125 {S : Nat × (Nat → Int32)} (N : Nat) (x5 : Int32) (x6 : Int32) (M : Mem) (r : Int32) (M' : Mem) (h : f_l_whenFalls_108_6_a_86 N 125 x5 x6 M = some (r, M')) : am_Y S 4 0 0 am_M144 86 [(0, .ref 108), (2, .ref 125), (5, .int x5), (6, .int x6)] [] (hp M) (some (.int r)) (hp M') := by
  rw [f_l_whenFalls_108_6_a_86] at h
  refine am_Y.run (k := 2) (pc' := 89) (lv' := [(0, .ref 108), (2, .ref 125), (5, .int x5), (6, .int x6)]) (st' := [.int (13 : Int32), .ref 125]) (h' := hp M) rfl ?_
  obtain ⟨q5, e_q5, h⟩ := Option.bind_eq_some_iff.mp h
  refine am_Y.call0 (M' := am_M244) (as := [.ref 125, .int (13 : Int32)]) (rest := []) (d' := 1) rfl (by omega) rfl rfl (t_p_startOf_a_125 (13 : Int32) M q5 e_q5) ?_
  refine am_Y.run (k := 1) (pc' := 93) (lv' := [(0, .ref 108), (2, .ref 125), (5, .int x5), (6, .int x6)]) (st' := [.int (-1 : Int32), .int q5]) (h' := hp M) rfl ?_
  refine am_Y.br (c := q5 = (-1 : Int32)) _ (t := 118) (u := 96) (lv' := [(0, .ref 108), (2, .ref 125), (5, .int x5), (6, .int x6)]) (st' := []) (h' := hp M) rfl (fun hc => ?_) (fun hc => ?_)
  · replace h := (if_pos hc).symm.trans h
    refine am_Y.run (k := 3) (pc' := 123) (lv' := [(0, .ref 108), (2, .ref 125), (5, .int x5), (6, .int x6)]) (st' := [.int (x6 + x5)]) (h' := hp M) rfl ?_
    obtain ⟨rfl, rfl⟩ := Prod.mk.inj (Option.some.inj h)
    exact am_Y.ret rfl
  · replace h := (if_neg hc).symm.trans h
    refine am_Y.run (k := 6) (pc' := 104) (lv' := [(0, .ref 108), (2, .ref 125), (5, .int x5), (6, .int x6)]) (st' := [.int (13 : Int32), .ref 125, .ref 125, .ref 108, .int (99 : Int32), .int (0 : Int32)]) (h' := hp M) rfl ?_
    obtain ⟨q6, e_q6, h⟩ := Option.bind_eq_some_iff.mp h
    refine am_Y.call0 (M' := am_M244) (as := [.ref 125, .int (13 : Int32)]) (rest := [.ref 125, .ref 108, .int (99 : Int32), .int (0 : Int32)]) (d' := 1) rfl (by omega) rfl rfl (t_p_startOf_a_125 (13 : Int32) M q6 e_q6) ?_
    obtain ⟨q7, e_q7, h⟩ := Option.bind_eq_some_iff.mp h
    refine am_Y.call0 (M' := am_M245) (as := [.ref 108, .ref 125, .int q6]) (rest := [.int (99 : Int32), .int (0 : Int32)]) (d' := 3) rfl (by omega) rfl rfl (t_l_run_125 N q6 M q7.1 q7.2 e_q7) ?_
    refine am_Y.call0 (M' := am_M242) (as := [.int (99 : Int32), .int q7.1]) (rest := [.int (0 : Int32)]) (d' := 0) rfl (by omega) rfl rfl (t_k_min0 (99 : Int32) q7.1 q7.2 _ rfl) ?_
    refine am_Y.call0 (M' := am_M246) (as := [.int (0 : Int32), .int (f_k_min0 (99 : Int32) q7.1 q7.2)]) (rest := []) (d' := 0) rfl (by omega) rfl rfl (t_k_max0 (0 : Int32) (f_k_min0 (99 : Int32) q7.1 q7.2) q7.2 _ rfl) ?_
    refine am_Y.run (k := 4) (pc' := 123) (lv' := [(5, .int (f_k_max0 (0 : Int32) (f_k_min0 (99 : Int32) q7.1 q7.2) q7.2)), (0, .ref 108), (2, .ref 125), (6, .int x6)]) (st' := [.int (x6 + (f_k_max0 (0 : Int32) (f_k_min0 (99 : Int32) q7.1 q7.2) q7.2))]) (h' := hp q7.2) rfl ?_
    obtain ⟨rfl, rfl⟩ := Prod.mk.inj (Option.some.inj h)
    exact am_Y.ret rfl
set_option maxRecDepth 100000 in
theorem t_l_whenFalls_108_6_a_31_125 {S : Nat × (Nat → Int32)} (N : Nat) (x3 : Int32) (x4 : Int32) (s0 : Int32) (M : Mem) (r : Int32) (M' : Mem) (h : f_l_whenFalls_108_6_a_31 N 125 x3 x4 s0 M = some (r, M')) : am_Y S 4 0 0 am_M144 31 [(0, .ref 108), (1, .ref 6), (2, .ref 125), (3, .int x3), (4, .int x4)] [.int s0] (hp M) (some (.int r)) (hp M') := by
  rw [f_l_whenFalls_108_6_a_31] at h
  refine am_Y.run (k := 3) (pc' := 37) (lv' := [(5, .int s0), (0, .ref 108), (1, .ref 6), (2, .ref 125), (3, .int x3), (4, .int x4)]) (st' := [.ref 11]) (h' := hp M) rfl ?_
  refine am_Y.call0 (M' := am_M121) (as := [.ref 11]) (rest := []) (d' := 0) rfl (by omega) rfl rfl (t_e_moment M _ rfl) ?_
  refine am_Y.run (k := 7) (pc' := 57) (lv' := [(6, .int (f_e_moment M)), (5, .int s0), (0, .ref 108), (1, .ref 6), (2, .ref 125), (3, .int x3), (4, .int x4)]) (st' := [.int x4, .int x3, .ref 6, .ref 108]) (h' := hp M) rfl ?_
  obtain ⟨q1, e_q1, h⟩ := Option.bind_eq_some_iff.mp h
  refine am_Y.call0 (M' := am_M243) (as := [.ref 108, .ref 6, .int x3, .int x4]) (rest := []) (d' := 3) rfl (by omega) rfl rfl (t_l_nameSpeaker N x3 x4 M q1 e_q1) ?_
  refine am_Y.run (k := 2) (pc' := 63) (lv' := [(6, .int (f_e_moment M)), (5, .int s0), (0, .ref 108), (1, .ref 6), (2, .ref 125), (3, .int x3), (4, .int x4)]) (st' := [.int (12 : Int32), .ref 125]) (h' := hp q1) rfl ?_
  obtain ⟨q2, e_q2, h⟩ := Option.bind_eq_some_iff.mp h
  refine am_Y.call0 (M' := am_M244) (as := [.ref 125, .int (12 : Int32)]) (rest := []) (d' := 1) rfl (by omega) rfl rfl (t_p_startOf_a_125 (12 : Int32) q1 q2 e_q2) ?_
  refine am_Y.run (k := 1) (pc' := 67) (lv' := [(6, .int (f_e_moment M)), (5, .int s0), (0, .ref 108), (1, .ref 6), (2, .ref 125), (3, .int x3), (4, .int x4)]) (st' := [.int (-1 : Int32), .int q2]) (h' := hp q1) rfl ?_
  refine am_Y.br (c := q2 = (-1 : Int32)) _ (t := 86) (u := 70) (lv' := [(6, .int (f_e_moment M)), (5, .int s0), (0, .ref 108), (1, .ref 6), (2, .ref 125), (3, .int x3), (4, .int x4)]) (st' := []) (h' := hp q1) rfl (fun hc => ?_) (fun hc => ?_)
  · replace h := (if_pos hc).symm.trans h
    refine am_Y.weak (lv2 := [(0, .ref 108), (2, .ref 125), (5, .int s0), (6, .int (f_e_moment M))]) rfl rfl ⟨rfl, rfl, rfl, rfl, trivial⟩ ?_
    exact t_l_whenFalls_108_6_a_86_125 N s0 (f_e_moment M) q1 _ _ h
  · replace h := (if_neg hc).symm.trans h
    refine am_Y.run (k := 4) (pc' := 75) (lv' := [(6, .int (f_e_moment M)), (5, .int s0), (0, .ref 108), (1, .ref 6), (2, .ref 125), (3, .int x3), (4, .int x4)]) (st' := [.int (12 : Int32), .ref 125, .ref 125, .ref 108]) (h' := hp q1) rfl ?_
    obtain ⟨q3, e_q3, h⟩ := Option.bind_eq_some_iff.mp h
    refine am_Y.call0 (M' := am_M244) (as := [.ref 125, .int (12 : Int32)]) (rest := [.ref 125, .ref 108]) (d' := 1) rfl (by omega) rfl rfl (t_p_startOf_a_125 (12 : Int32) q1 q3 e_q3) ?_
    obtain ⟨q4, e_q4, h⟩ := Option.bind_eq_some_iff.mp h
    refine am_Y.call0 (M' := am_M245) (as := [.ref 108, .ref 125, .int q3]) (rest := []) (d' := 3) rfl (by omega) rfl rfl (t_l_run_125 N q3 q1 q4.1 q4.2 e_q4) ?_
    refine am_Y.br (c := q4.1 = (0 : Int32)) _ (t := 84) (u := 86) (lv' := [(6, .int (f_e_moment M)), (5, .int s0), (0, .ref 108), (1, .ref 6), (2, .ref 125), (3, .int x3), (4, .int x4)]) (st' := []) (h' := hp q4.2) rfl (fun hc => ?_) (fun hc => ?_)
    · replace h := (if_pos hc).symm.trans h
      refine am_Y.run (k := 1) (pc' := 85) (lv' := [(6, .int (f_e_moment M)), (5, .int s0), (0, .ref 108), (1, .ref 6), (2, .ref 125), (3, .int x3), (4, .int x4)]) (st' := [.int (-1 : Int32)]) (h' := hp q4.2) rfl ?_
      obtain ⟨rfl, rfl⟩ := Prod.mk.inj (Option.some.inj h)
      exact am_Y.ret rfl
    · replace h := (if_neg hc).symm.trans h
      refine am_Y.weak (lv2 := [(0, .ref 108), (2, .ref 125), (5, .int s0), (6, .int (f_e_moment M))]) rfl rfl ⟨rfl, rfl, rfl, rfl, trivial⟩ ?_
      exact t_l_whenFalls_108_6_a_86_125 N s0 (f_e_moment M) q4.2 _ _ h
set_option maxRecDepth 100000 in
theorem t_l_whenFalls_108_6_a_125 {S : Nat × (Nat → Int32)} (N : Nat) (x3 : Int32) (x4 : Int32) (M : Mem) (r : Int32) (M' : Mem) (h : f_l_whenFalls_108_6_a N 125 x3 x4 M = some (r, M')) : am_Y S 4 0 0 am_M144 0 [(0, .ref 108), (1, .ref 6), (2, .ref 125), (3, .int x3), (4, .int x4)] [] (hp M) (some (.int r)) (hp M') := by
  rw [f_l_whenFalls_108_6_a] at h
  refine am_Y.run (k := 3) (pc' := 5) (lv' := [(0, .ref 108), (1, .ref 6), (2, .ref 125), (3, .int x3), (4, .int x4)]) (st' := [.int x3, .ref 7]) (h' := hp M) rfl ?_
  refine am_Y.call0 (M' := am_M140) (as := [.ref 7, .int x3]) (rest := []) (d' := 1) rfl (by omega) rfl rfl (t_g_knows x3 M _ rfl) ?_
  refine am_Y.br (c := (f_g_knows x3 M) = (0 : Int32)) _ (t := 11) (u := 13) (lv' := [(0, .ref 108), (1, .ref 6), (2, .ref 125), (3, .int x3), (4, .int x4)]) (st' := []) (h' := hp M) rfl (fun hc => ?_) (fun hc => ?_)
  · replace h := (if_pos hc).symm.trans h
    refine am_Y.run (k := 1) (pc' := 12) (lv' := [(0, .ref 108), (1, .ref 6), (2, .ref 125), (3, .int x3), (4, .int x4)]) (st' := [.int (-1 : Int32)]) (h' := hp M) rfl ?_
    obtain ⟨rfl, rfl⟩ := Prod.mk.inj (Option.some.inj h)
    exact am_Y.ret rfl
  · replace h := (if_neg hc).symm.trans h
    refine am_Y.run (k := 4) (pc' := 21) (lv' := [(0, .ref 108), (1, .ref 6), (2, .ref 125), (3, .int x3), (4, .int x4)]) (st' := [.int x3, .ref 9]) (h' := hp M) rfl ?_
    obtain ⟨g, h⟩ := am_itg h
    refine am_Y.iald (a := 4) (n := 8) rfl rfl g ?_
    refine am_Y.run (k := 1) (pc' := 23) (lv' := [(0, .ref 108), (1, .ref 6), (2, .ref 125), (3, .int x3), (4, .int x4)]) (st' := [.int (3 : Int32), .int (gi M 9 (x3).toNatClampNeg)]) (h' := hp M) rfl ?_
    refine am_Y.br (c := (3 : Int32) ≤ (gi M 9 (x3).toNatClampNeg)) _ (t := 30) (u := 26) (lv' := [(0, .ref 108), (1, .ref 6), (2, .ref 125), (3, .int x3), (4, .int x4)]) (st' := []) (h' := hp M) rfl (fun hc => ?_) (fun hc => ?_)
    · replace h := (if_pos hc).symm.trans h
      refine am_Y.run (k := 1) (pc' := 31) (lv' := [(0, .ref 108), (1, .ref 6), (2, .ref 125), (3, .int x3), (4, .int x4)]) (st' := [.int (0 : Int32)]) (h' := hp M) rfl ?_
      refine am_Y.weak (lv2 := [(0, .ref 108), (1, .ref 6), (2, .ref 125), (3, .int x3), (4, .int x4)]) rfl rfl ⟨rfl, rfl, rfl, rfl, rfl, trivial⟩ ?_
      exact t_l_whenFalls_108_6_a_31_125 N x3 x4 (0 : Int32) M _ _ h
    · replace h := (if_neg hc).symm.trans h
      refine am_Y.run (k := 2) (pc' := 31) (lv' := [(0, .ref 108), (1, .ref 6), (2, .ref 125), (3, .int x3), (4, .int x4)]) (st' := [.int (3 : Int32)]) (h' := hp M) rfl ?_
      refine am_Y.weak (lv2 := [(0, .ref 108), (1, .ref 6), (2, .ref 125), (3, .int x3), (4, .int x4)]) rfl rfl ⟨rfl, rfl, rfl, rfl, rfl, trivial⟩ ?_
      exact t_l_whenFalls_108_6_a_31_125 N x3 x4 (3 : Int32) M _ _ h
set_option maxRecDepth 100000 in
theorem t_w_speak_38 {S : Nat × (Nat → Int32)} (N : Nat) (x1 : Int32) (x2 : Int32) (M : Mem) (r : Int32) (M' : Mem) (h : f_w_speak_38 N x1 x2 M = some (r, M')) : am_Y S 5 0 0 am_M114 38 [(0, .ref 5), (1, .int x1), (2, .int x2)] [] (hp M) (some (.int r)) (hp M') := by
  rw [f_w_speak_38] at h
  refine am_Y.run (k := 8) (pc' := 54) (lv' := [(0, .ref 5), (1, .int x1), (2, .int x2)]) (st' := [.int (gi M 6 5), .ref 5, .ref 6, .ref 108]) (h' := hp M) rfl ?_
  cases hs : w_scr (gi M 6 5) with
  | none =>
    rw [hs] at h
    refine am_Y.call0 (M' := am_M110) (as := [.ref 5, .int (gi M 6 5)]) (rest := [.ref 6, .ref 108]) (d' := 1) rfl (by omega) rfl rfl (t_w_scriptAt_n (gi M 6 5) M hs) ?_
    refine am_Y.run (k := 2) (pc' := 59) (lv' := [(0, .ref 5), (1, .int x1), (2, .int x2)]) (st' := [.int x2, .int x1, .null, .ref 6, .ref 108]) (h' := hp M) rfl ?_
    obtain ⟨q2, e_q2, h⟩ := Option.bind_eq_some_iff.mp h
    refine am_Y.call0 (M' := am_M144) (as := [.ref 108, .ref 6, .null, .int x1, .int x2]) (rest := []) (d' := 2) rfl (by omega) rfl rfl (t_l_whenFalls_108_6_null x1 x2 M q2 e_q2) ?_
    refine am_Y.run (k := 7) (pc' := 75) (lv' := [(4, .int q2), (0, .ref 5), (1, .int x1), (2, .int x2)]) (st' := [.int q2, .int x2, .int x1, .ref 11]) (h' := hp M) rfl ?_
    obtain ⟨q3, e_q3, h⟩ := Option.bind_eq_some_iff.mp h
    refine am_Y.call0 (M' := am_M122) (as := [.ref 11, .int x1, .int x2, .int q2]) (rest := []) (d' := 1) rfl (by omega) rfl rfl (t_e_enter x1 x2 q2 M q3 e_q3) ?_
    refine am_Y.run (k := 2) (pc' := 80) (lv' := [(4, .int q2), (0, .ref 5), (1, .int x1), (2, .int x2)]) (st' := [.int (3 : Int32), .int x2]) (h' := hp q3) rfl ?_
    refine am_Y.br (c := x2 = (3 : Int32)) _ (t := 83) (u := 96) (lv' := [(4, .int q2), (0, .ref 5), (1, .int x1), (2, .int x2)]) (st' := []) (h' := hp q3) rfl (fun hc => ?_) (fun hc => ?_)
    · replace h := (if_pos hc).symm.trans h
      refine am_Y.run (k := 6) (pc' := 93) (lv' := [(4, .int q2), (0, .ref 5), (1, .int x1), (2, .int x2)]) (st' := [.int ((1 : Int32) <<< (x1 &&& 31)), .ref 11]) (h' := hp q3) rfl ?_
      obtain ⟨q4, e_q4, h⟩ := Option.bind_eq_some_iff.mp h
      refine am_Y.call0 (M' := am_M127) (as := [.ref 11, .int ((1 : Int32) <<< (x1 &&& 31))]) (rest := []) (d' := 0) rfl (by omega) rfl rfl (t_e_letGo ((1 : Int32) <<< (x1 &&& 31)) q3 q4 e_q4) ?_
      refine am_Y.run (k := 1) (pc' := 98) (lv' := [(4, .int q2), (0, .ref 5), (1, .int x1), (2, .int x2)]) (st' := [.int q2]) (h' := hp q4) rfl ?_
      obtain ⟨rfl, rfl⟩ := Prod.mk.inj (Option.some.inj h)
      exact am_Y.ret rfl
    · replace h := (if_neg hc).symm.trans h
      refine am_Y.run (k := 1) (pc' := 98) (lv' := [(4, .int q2), (0, .ref 5), (1, .int x1), (2, .int x2)]) (st' := [.int q2]) (h' := hp q3) rfl ?_
      obtain ⟨rfl, rfl⟩ := Prod.mk.inj (Option.some.inj h)
      exact am_Y.ret rfl
  | some a =>
    rw [hs] at h
    rcases w_scr_cases hs with rfl | rfl | rfl | rfl
    · refine am_Y.call0 (M' := am_M110) (as := [.ref 5, .int (gi M 6 5)]) (rest := [.ref 6, .ref 108]) (d' := 1) rfl (by omega) rfl rfl (t_w_scriptAt_s (gi M 6 5) M hs) ?_
      refine am_Y.run (k := 2) (pc' := 59) (lv' := [(0, .ref 5), (1, .int x1), (2, .int x2)]) (st' := [.int x2, .int x1, .ref 113, .ref 6, .ref 108]) (h' := hp M) rfl ?_
      obtain ⟨q5, e_q5, h⟩ := Option.bind_eq_some_iff.mp h
      refine am_Y.call0 (M' := am_M144) (as := [.ref 108, .ref 6, .ref 113, .int x1, .int x2]) (rest := []) (d' := 4) rfl (by omega) rfl rfl (t_l_whenFalls_108_6_a_113 N x1 x2 M q5.1 q5.2 e_q5) ?_
      refine am_Y.run (k := 7) (pc' := 75) (lv' := [(4, .int q5.1), (0, .ref 5), (1, .int x1), (2, .int x2)]) (st' := [.int q5.1, .int x2, .int x1, .ref 11]) (h' := hp q5.2) rfl ?_
      obtain ⟨q6, e_q6, h⟩ := Option.bind_eq_some_iff.mp h
      refine am_Y.call0 (M' := am_M122) (as := [.ref 11, .int x1, .int x2, .int q5.1]) (rest := []) (d' := 1) rfl (by omega) rfl rfl (t_e_enter x1 x2 q5.1 q5.2 q6 e_q6) ?_
      refine am_Y.run (k := 2) (pc' := 80) (lv' := [(4, .int q5.1), (0, .ref 5), (1, .int x1), (2, .int x2)]) (st' := [.int (3 : Int32), .int x2]) (h' := hp q6) rfl ?_
      refine am_Y.br (c := x2 = (3 : Int32)) _ (t := 83) (u := 96) (lv' := [(4, .int q5.1), (0, .ref 5), (1, .int x1), (2, .int x2)]) (st' := []) (h' := hp q6) rfl (fun hc => ?_) (fun hc => ?_)
      · replace h := (if_pos hc).symm.trans h
        refine am_Y.run (k := 6) (pc' := 93) (lv' := [(4, .int q5.1), (0, .ref 5), (1, .int x1), (2, .int x2)]) (st' := [.int ((1 : Int32) <<< (x1 &&& 31)), .ref 11]) (h' := hp q6) rfl ?_
        obtain ⟨q7, e_q7, h⟩ := Option.bind_eq_some_iff.mp h
        refine am_Y.call0 (M' := am_M127) (as := [.ref 11, .int ((1 : Int32) <<< (x1 &&& 31))]) (rest := []) (d' := 0) rfl (by omega) rfl rfl (t_e_letGo ((1 : Int32) <<< (x1 &&& 31)) q6 q7 e_q7) ?_
        refine am_Y.run (k := 1) (pc' := 98) (lv' := [(4, .int q5.1), (0, .ref 5), (1, .int x1), (2, .int x2)]) (st' := [.int q5.1]) (h' := hp q7) rfl ?_
        obtain ⟨rfl, rfl⟩ := Prod.mk.inj (Option.some.inj h)
        exact am_Y.ret rfl
      · replace h := (if_neg hc).symm.trans h
        refine am_Y.run (k := 1) (pc' := 98) (lv' := [(4, .int q5.1), (0, .ref 5), (1, .int x1), (2, .int x2)]) (st' := [.int q5.1]) (h' := hp q6) rfl ?_
        obtain ⟨rfl, rfl⟩ := Prod.mk.inj (Option.some.inj h)
        exact am_Y.ret rfl
    · refine am_Y.call0 (M' := am_M110) (as := [.ref 5, .int (gi M 6 5)]) (rest := [.ref 6, .ref 108]) (d' := 1) rfl (by omega) rfl rfl (t_w_scriptAt_s (gi M 6 5) M hs) ?_
      refine am_Y.run (k := 2) (pc' := 59) (lv' := [(0, .ref 5), (1, .int x1), (2, .int x2)]) (st' := [.int x2, .int x1, .ref 117, .ref 6, .ref 108]) (h' := hp M) rfl ?_
      obtain ⟨q5, e_q5, h⟩ := Option.bind_eq_some_iff.mp h
      refine am_Y.call0 (M' := am_M144) (as := [.ref 108, .ref 6, .ref 117, .int x1, .int x2]) (rest := []) (d' := 4) rfl (by omega) rfl rfl (t_l_whenFalls_108_6_a_117 N x1 x2 M q5.1 q5.2 e_q5) ?_
      refine am_Y.run (k := 7) (pc' := 75) (lv' := [(4, .int q5.1), (0, .ref 5), (1, .int x1), (2, .int x2)]) (st' := [.int q5.1, .int x2, .int x1, .ref 11]) (h' := hp q5.2) rfl ?_
      obtain ⟨q6, e_q6, h⟩ := Option.bind_eq_some_iff.mp h
      refine am_Y.call0 (M' := am_M122) (as := [.ref 11, .int x1, .int x2, .int q5.1]) (rest := []) (d' := 1) rfl (by omega) rfl rfl (t_e_enter x1 x2 q5.1 q5.2 q6 e_q6) ?_
      refine am_Y.run (k := 2) (pc' := 80) (lv' := [(4, .int q5.1), (0, .ref 5), (1, .int x1), (2, .int x2)]) (st' := [.int (3 : Int32), .int x2]) (h' := hp q6) rfl ?_
      refine am_Y.br (c := x2 = (3 : Int32)) _ (t := 83) (u := 96) (lv' := [(4, .int q5.1), (0, .ref 5), (1, .int x1), (2, .int x2)]) (st' := []) (h' := hp q6) rfl (fun hc => ?_) (fun hc => ?_)
      · replace h := (if_pos hc).symm.trans h
        refine am_Y.run (k := 6) (pc' := 93) (lv' := [(4, .int q5.1), (0, .ref 5), (1, .int x1), (2, .int x2)]) (st' := [.int ((1 : Int32) <<< (x1 &&& 31)), .ref 11]) (h' := hp q6) rfl ?_
        obtain ⟨q7, e_q7, h⟩ := Option.bind_eq_some_iff.mp h
        refine am_Y.call0 (M' := am_M127) (as := [.ref 11, .int ((1 : Int32) <<< (x1 &&& 31))]) (rest := []) (d' := 0) rfl (by omega) rfl rfl (t_e_letGo ((1 : Int32) <<< (x1 &&& 31)) q6 q7 e_q7) ?_
        refine am_Y.run (k := 1) (pc' := 98) (lv' := [(4, .int q5.1), (0, .ref 5), (1, .int x1), (2, .int x2)]) (st' := [.int q5.1]) (h' := hp q7) rfl ?_
        obtain ⟨rfl, rfl⟩ := Prod.mk.inj (Option.some.inj h)
        exact am_Y.ret rfl
      · replace h := (if_neg hc).symm.trans h
        refine am_Y.run (k := 1) (pc' := 98) (lv' := [(4, .int q5.1), (0, .ref 5), (1, .int x1), (2, .int x2)]) (st' := [.int q5.1]) (h' := hp q6) rfl ?_
        obtain ⟨rfl, rfl⟩ := Prod.mk.inj (Option.some.inj h)
        exact am_Y.ret rfl
    · refine am_Y.call0 (M' := am_M110) (as := [.ref 5, .int (gi M 6 5)]) (rest := [.ref 6, .ref 108]) (d' := 1) rfl (by omega) rfl rfl (t_w_scriptAt_s (gi M 6 5) M hs) ?_
      refine am_Y.run (k := 2) (pc' := 59) (lv' := [(0, .ref 5), (1, .int x1), (2, .int x2)]) (st' := [.int x2, .int x1, .ref 121, .ref 6, .ref 108]) (h' := hp M) rfl ?_
      obtain ⟨q5, e_q5, h⟩ := Option.bind_eq_some_iff.mp h
      refine am_Y.call0 (M' := am_M144) (as := [.ref 108, .ref 6, .ref 121, .int x1, .int x2]) (rest := []) (d' := 4) rfl (by omega) rfl rfl (t_l_whenFalls_108_6_a_121 N x1 x2 M q5.1 q5.2 e_q5) ?_
      refine am_Y.run (k := 7) (pc' := 75) (lv' := [(4, .int q5.1), (0, .ref 5), (1, .int x1), (2, .int x2)]) (st' := [.int q5.1, .int x2, .int x1, .ref 11]) (h' := hp q5.2) rfl ?_
      obtain ⟨q6, e_q6, h⟩ := Option.bind_eq_some_iff.mp h
      refine am_Y.call0 (M' := am_M122) (as := [.ref 11, .int x1, .int x2, .int q5.1]) (rest := []) (d' := 1) rfl (by omega) rfl rfl (t_e_enter x1 x2 q5.1 q5.2 q6 e_q6) ?_
      refine am_Y.run (k := 2) (pc' := 80) (lv' := [(4, .int q5.1), (0, .ref 5), (1, .int x1), (2, .int x2)]) (st' := [.int (3 : Int32), .int x2]) (h' := hp q6) rfl ?_
      refine am_Y.br (c := x2 = (3 : Int32)) _ (t := 83) (u := 96) (lv' := [(4, .int q5.1), (0, .ref 5), (1, .int x1), (2, .int x2)]) (st' := []) (h' := hp q6) rfl (fun hc => ?_) (fun hc => ?_)
      · replace h := (if_pos hc).symm.trans h
        refine am_Y.run (k := 6) (pc' := 93) (lv' := [(4, .int q5.1), (0, .ref 5), (1, .int x1), (2, .int x2)]) (st' := [.int ((1 : Int32) <<< (x1 &&& 31)), .ref 11]) (h' := hp q6) rfl ?_
        obtain ⟨q7, e_q7, h⟩ := Option.bind_eq_some_iff.mp h
        refine am_Y.call0 (M' := am_M127) (as := [.ref 11, .int ((1 : Int32) <<< (x1 &&& 31))]) (rest := []) (d' := 0) rfl (by omega) rfl rfl (t_e_letGo ((1 : Int32) <<< (x1 &&& 31)) q6 q7 e_q7) ?_
        refine am_Y.run (k := 1) (pc' := 98) (lv' := [(4, .int q5.1), (0, .ref 5), (1, .int x1), (2, .int x2)]) (st' := [.int q5.1]) (h' := hp q7) rfl ?_
        obtain ⟨rfl, rfl⟩ := Prod.mk.inj (Option.some.inj h)
        exact am_Y.ret rfl
      · replace h := (if_neg hc).symm.trans h
        refine am_Y.run (k := 1) (pc' := 98) (lv' := [(4, .int q5.1), (0, .ref 5), (1, .int x1), (2, .int x2)]) (st' := [.int q5.1]) (h' := hp q6) rfl ?_
        obtain ⟨rfl, rfl⟩ := Prod.mk.inj (Option.some.inj h)
        exact am_Y.ret rfl
    · refine am_Y.call0 (M' := am_M110) (as := [.ref 5, .int (gi M 6 5)]) (rest := [.ref 6, .ref 108]) (d' := 1) rfl (by omega) rfl rfl (t_w_scriptAt_s (gi M 6 5) M hs) ?_
      refine am_Y.run (k := 2) (pc' := 59) (lv' := [(0, .ref 5), (1, .int x1), (2, .int x2)]) (st' := [.int x2, .int x1, .ref 125, .ref 6, .ref 108]) (h' := hp M) rfl ?_
      obtain ⟨q5, e_q5, h⟩ := Option.bind_eq_some_iff.mp h
      refine am_Y.call0 (M' := am_M144) (as := [.ref 108, .ref 6, .ref 125, .int x1, .int x2]) (rest := []) (d' := 4) rfl (by omega) rfl rfl (t_l_whenFalls_108_6_a_125 N x1 x2 M q5.1 q5.2 e_q5) ?_
      refine am_Y.run (k := 7) (pc' := 75) (lv' := [(4, .int q5.1), (0, .ref 5), (1, .int x1), (2, .int x2)]) (st' := [.int q5.1, .int x2, .int x1, .ref 11]) (h' := hp q5.2) rfl ?_
      obtain ⟨q6, e_q6, h⟩ := Option.bind_eq_some_iff.mp h
      refine am_Y.call0 (M' := am_M122) (as := [.ref 11, .int x1, .int x2, .int q5.1]) (rest := []) (d' := 1) rfl (by omega) rfl rfl (t_e_enter x1 x2 q5.1 q5.2 q6 e_q6) ?_
      refine am_Y.run (k := 2) (pc' := 80) (lv' := [(4, .int q5.1), (0, .ref 5), (1, .int x1), (2, .int x2)]) (st' := [.int (3 : Int32), .int x2]) (h' := hp q6) rfl ?_
      refine am_Y.br (c := x2 = (3 : Int32)) _ (t := 83) (u := 96) (lv' := [(4, .int q5.1), (0, .ref 5), (1, .int x1), (2, .int x2)]) (st' := []) (h' := hp q6) rfl (fun hc => ?_) (fun hc => ?_)
      · replace h := (if_pos hc).symm.trans h
        refine am_Y.run (k := 6) (pc' := 93) (lv' := [(4, .int q5.1), (0, .ref 5), (1, .int x1), (2, .int x2)]) (st' := [.int ((1 : Int32) <<< (x1 &&& 31)), .ref 11]) (h' := hp q6) rfl ?_
        obtain ⟨q7, e_q7, h⟩ := Option.bind_eq_some_iff.mp h
        refine am_Y.call0 (M' := am_M127) (as := [.ref 11, .int ((1 : Int32) <<< (x1 &&& 31))]) (rest := []) (d' := 0) rfl (by omega) rfl rfl (t_e_letGo ((1 : Int32) <<< (x1 &&& 31)) q6 q7 e_q7) ?_
        refine am_Y.run (k := 1) (pc' := 98) (lv' := [(4, .int q5.1), (0, .ref 5), (1, .int x1), (2, .int x2)]) (st' := [.int q5.1]) (h' := hp q7) rfl ?_
        obtain ⟨rfl, rfl⟩ := Prod.mk.inj (Option.some.inj h)
        exact am_Y.ret rfl
      · replace h := (if_neg hc).symm.trans h
        refine am_Y.run (k := 1) (pc' := 98) (lv' := [(4, .int q5.1), (0, .ref 5), (1, .int x1), (2, .int x2)]) (st' := [.int q5.1]) (h' := hp q6) rfl ?_
        obtain ⟨rfl, rfl⟩ := Prod.mk.inj (Option.some.inj h)
        exact am_Y.ret rfl
set_option maxRecDepth 100000 in
theorem t_w_speak {S : Nat × (Nat → Int32)} (N : Nat) (x1 : Int32) (x2 : Int32) (x3 : Int32) (M : Mem) (r : Int32) (M' : Mem) (h : f_w_speak N x1 x2 x3 M = some (r, M')) : am_Y S 5 0 0 am_M114 0 [(0, .ref 5), (1, .int x1), (2, .int x2), (3, .int x3)] [] (hp M) (some (.int r)) (hp M') := by
  rw [f_w_speak] at h
  refine am_Y.run (k := 3) (pc' := 5) (lv' := [(0, .ref 5), (1, .int x1), (2, .int x2), (3, .int x3)]) (st' := [.int x1, .ref 6]) (h' := hp M) rfl ?_
  refine am_Y.call0 (M' := am_M126) (as := [.ref 6, .int x1]) (rest := []) (d' := 2) rfl (by omega) rfl rfl (t_t_isThere x1 M _ rfl) ?_
  refine am_Y.br (c := (f_t_isThere x1 M) = (0 : Int32)) _ (t := 24) (u := 11) (lv' := [(0, .ref 5), (1, .int x1), (2, .int x2), (3, .int x3)]) (st' := []) (h' := hp M) rfl (fun hc => ?_) (fun hc => ?_)
  · replace h := (if_pos hc).symm.trans h
    refine am_Y.run (k := 1) (pc' := 26) (lv' := [(0, .ref 5), (1, .int x1), (2, .int x2), (3, .int x3)]) (st' := [.int (-2 : Int32)]) (h' := hp M) rfl ?_
    obtain ⟨rfl, rfl⟩ := Prod.mk.inj (Option.some.inj h)
    exact am_Y.ret rfl
  · replace h := (if_neg hc).symm.trans h
    refine am_Y.run (k := 3) (pc' := 18) (lv' := [(0, .ref 5), (1, .int x1), (2, .int x2), (3, .int x3)]) (st' := [.ref 11]) (h' := hp M) rfl ?_
    refine am_Y.call0 (M' := am_M119) (as := [.ref 11]) (rest := []) (d' := 1) rfl (by omega) rfl rfl (t_e_isFull M _ rfl) ?_
    refine am_Y.br (c := (f_e_isFull M) = (0 : Int32)) _ (t := 27) (u := 24) (lv' := [(0, .ref 5), (1, .int x1), (2, .int x2), (3, .int x3)]) (st' := []) (h' := hp M) rfl (fun hc => ?_) (fun hc => ?_)
    · replace h := (if_pos hc).symm.trans h
      refine am_Y.run (k := 1) (pc' := 28) (lv' := [(0, .ref 5), (1, .int x1), (2, .int x2), (3, .int x3)]) (st' := [.int x3]) (h' := hp M) rfl ?_
      refine am_Y.br (c := x3 = (0 : Int32)) _ (t := 38) (u := 31) (lv' := [(0, .ref 5), (1, .int x1), (2, .int x2), (3, .int x3)]) (st' := []) (h' := hp M) rfl (fun hc => ?_) (fun hc => ?_)
      · replace h := (if_pos hc).symm.trans h
        refine am_Y.weak (lv2 := [(0, .ref 5), (1, .int x1), (2, .int x2)]) rfl rfl ⟨rfl, rfl, rfl, trivial⟩ ?_
        exact t_w_speak_38 N x1 x2 M _ _ h
      · replace h := (if_neg hc).symm.trans h
        refine am_Y.run (k := 2) (pc' := 35) (lv' := [(0, .ref 5), (1, .int x1), (2, .int x2), (3, .int x3)]) (st' := [.ref 6]) (h' := hp M) rfl ?_
        obtain ⟨q1, e_q1, h⟩ := Option.bind_eq_some_iff.mp h
        refine am_Y.call0 (M' := am_M120) (as := [.ref 6]) (rest := []) (d' := 2) rfl (by omega) rfl rfl (t_t_keepStep M q1 e_q1) ?_
        refine am_Y.weak (lv2 := [(0, .ref 5), (1, .int x1), (2, .int x2)]) rfl rfl ⟨rfl, rfl, rfl, trivial⟩ ?_
        exact t_w_speak_38 N x1 x2 q1 _ _ h
    · replace h := (if_neg hc).symm.trans h
      refine am_Y.run (k := 1) (pc' := 26) (lv' := [(0, .ref 5), (1, .int x1), (2, .int x2), (3, .int x3)]) (st' := [.int (-2 : Int32)]) (h' := hp M) rfl ?_
      obtain ⟨rfl, rfl⟩ := Prod.mk.inj (Option.some.inj h)
      exact am_Y.ret rfl
set_option maxRecDepth 100000 in
theorem t_w_say {S : Nat × (Nat → Int32)} (N : Nat) (x1 : Int32) (x2 : Int32) (M : Mem) (r : Int32) (M' : Mem) (h : f_w_say N x1 x2 M = some (r, M')) : am_Y S 6 0 0 am_M14 0 [(0, .ref 5), (1, .int x1), (2, .int x2)] [] (hp M) (some (.int r)) (hp M') := by
  rw [f_w_say] at h
  refine am_Y.run (k := 3) (pc' := 3) (lv' := [(0, .ref 5), (1, .int x1), (2, .int x2)]) (st' := [.int (3 : Int32), .int (0 : Int32), .int x2]) (h' := hp M) rfl ?_
  refine am_Y.call0 (M' := am_M102) (as := [.int x2, .int (0 : Int32), .int (3 : Int32)]) (rest := []) (d' := 0) rfl (by omega) rfl rfl (t_w_within x2 (0 : Int32) (3 : Int32) M _ rfl) ?_
  refine am_Y.br (c := (f_w_within x2 (0 : Int32) (3 : Int32) M) = (0 : Int32)) _ (t := 19) (u := 9) (lv' := [(0, .ref 5), (1, .int x1), (2, .int x2)]) (st' := []) (h' := hp M) rfl (fun hc => ?_) (fun hc => ?_)
  · replace h := (if_pos hc).symm.trans h
    refine am_Y.run (k := 1) (pc' := 21) (lv' := [(0, .ref 5), (1, .int x1), (2, .int x2)]) (st' := [.int (-2 : Int32)]) (h' := hp M) rfl ?_
    obtain ⟨rfl, rfl⟩ := Prod.mk.inj (Option.some.inj h)
    exact am_Y.ret rfl
  · replace h := (if_neg hc).symm.trans h
    refine am_Y.run (k := 4) (pc' := 13) (lv' := [(0, .ref 5), (1, .int x1), (2, .int x2)]) (st' := [.int (1 : Int32), .int x2, .int x1, .ref 5]) (h' := hp M) rfl ?_
    obtain ⟨q1, e_q1, h⟩ := Option.bind_eq_some_iff.mp h
    refine am_Y.call0 (M' := am_M114) (as := [.ref 5, .int x1, .int x2, .int (1 : Int32)]) (rest := []) (d' := 5) rfl (by omega) rfl rfl (t_w_speak N x1 x2 (1 : Int32) M q1.1 q1.2 e_q1) ?_
    refine am_Y.run (k := 1) (pc' := 21) (lv' := [(0, .ref 5), (1, .int x1), (2, .int x2)]) (st' := [.int q1.1]) (h' := hp q1.2) rfl ?_
    obtain ⟨rfl, rfl⟩ := Prod.mk.inj (Option.some.inj h)
    exact am_Y.ret rfl
set_option maxRecDepth 100000 in
theorem t_m_isGuest {S : Nat × (Nat → Int32)} (x1 : Int32) (M : Mem) (r : Int32) (h : f_m_isGuest x1 M = r) : am_Y S 1 0 0 am_M115 0 [(0, .ref 129), (1, .int x1)] [] (hp M) (some (.int r)) (hp M) := by
  rw [f_m_isGuest] at h
  refine am_Y.run (k := 8) (pc' := 10) (lv' := [(0, .ref 129), (1, .int x1)]) (st' := [.int ((gi M 130 0) - (1 : Int32)), .int (0 : Int32), .int x1]) (h' := hp M) rfl ?_
  refine am_Y.call0 (M' := am_M104) (as := [.int x1, .int (0 : Int32), .int ((gi M 130 0) - (1 : Int32))]) (rest := []) (d' := 0) rfl (by omega) rfl rfl (t_m_isIn x1 (0 : Int32) ((gi M 130 0) - (1 : Int32)) M _ rfl) ?_
  subst h
  exact am_Y.ret (by rcases (z_m_isIn x1 (0 : Int32) ((gi M 130 0) - (1 : Int32)) _) with e | e <;> (rw [e]; rfl))
set_option maxRecDepth 100000 in
theorem z_m_isGuest (x1 : Int32) (M : Mem) : f_m_isGuest x1 M = 0 ∨ f_m_isGuest x1 M = 1 := by
  simp only [f_m_isGuest]
  first | (repeat' split) <;> first | exact Or.inl rfl | exact Or.inr rfl | (simp; done) | exact z_m_isIn _ _ _ _ | exact z_m_isIn _ _ _ | exact z_m_isIn _ _
set_option maxRecDepth 100000 in
theorem t_m_get {S : Nat × (Nat → Int32)} (x1 : Int32) (x2 : Int32) (M : Mem) (r : Int32) (h : f_m_get x1 x2 M = some r) : am_Y S 0 0 0 am_M146 0 [(0, .ref 129), (1, .int x1), (2, .int x2)] [] (hp M) (some (.int r)) (hp M) := by
  rw [f_m_get] at h
  refine am_Y.run (k := 9) (pc' := 13) (lv' := [(0, .ref 129), (1, .int x1), (2, .int x2)]) (st' := [.int (((12 : Int32) + ((7 : Int32) * x1)) + x2), .ref 130]) (h' := hp M) rfl ?_
  obtain ⟨g, h⟩ := am_itg h
  refine am_Y.iald (a := 125) (n := 3826) rfl rfl g ?_
  obtain rfl := Option.some.inj h
  exact am_Y.ret rfl
set_option maxRecDepth 100000 in
theorem t_m_isThere {S : Nat × (Nat → Int32)} (x1 : Int32) (M : Mem) (r : Int32) (h : f_m_isThere x1 M = some r) : am_Y S 1 0 0 am_M128 0 [(0, .ref 129), (1, .int x1)] [] (hp M) (some (.int r)) (hp M) := by
  rw [f_m_isThere] at h
  refine am_Y.run (k := 3) (pc' := 3) (lv' := [(0, .ref 129), (1, .int x1)]) (st' := [.int (3 : Int32), .int x1, .ref 129]) (h' := hp M) rfl ?_
  obtain ⟨q1, e_q1, h⟩ := Option.bind_eq_some_iff.mp h
  refine am_Y.call0 (M' := am_M146) (as := [.ref 129, .int x1, .int (3 : Int32)]) (rest := []) (d' := 0) rfl (by omega) rfl rfl (t_m_get x1 (3 : Int32) M q1 e_q1) ?_
  refine am_Y.run (k := 1) (pc' := 7) (lv' := [(0, .ref 129), (1, .int x1)]) (st' := [.int (1 : Int32), .int q1]) (h' := hp M) rfl ?_
  refine am_Y.br (c := q1 = (1 : Int32)) _ (t := 10) (u := 14) (lv' := [(0, .ref 129), (1, .int x1)]) (st' := []) (h' := hp M) rfl (fun hc => ?_) (fun hc => ?_)
  · replace h := (if_pos hc).symm.trans h
    refine am_Y.run (k := 2) (pc' := 15) (lv' := [(0, .ref 129), (1, .int x1)]) (st' := [.int (1 : Int32)]) (h' := hp M) rfl ?_
    obtain rfl := Option.some.inj h
    exact am_Y.ret rfl
  · replace h := (if_neg hc).symm.trans h
    refine am_Y.run (k := 1) (pc' := 15) (lv' := [(0, .ref 129), (1, .int x1)]) (st' := [.int (0 : Int32)]) (h' := hp M) rfl ?_
    obtain rfl := Option.some.inj h
    exact am_Y.ret rfl
set_option maxRecDepth 100000 in
theorem t_m_canSay {S : Nat × (Nat → Int32)} (x1 : Int32) (M : Mem) (r : Int32) (h : f_m_canSay x1 M = some r) : am_Y S 2 0 0 am_M116 0 [(0, .ref 129), (1, .int x1)] [] (hp M) (some (.int r)) (hp M) := by
  rw [f_m_canSay] at h
  refine am_Y.run (k := 2) (pc' := 2) (lv' := [(0, .ref 129), (1, .int x1)]) (st' := [.int x1, .ref 129]) (h' := hp M) rfl ?_
  obtain ⟨q1, e_q1, h⟩ := Option.bind_eq_some_iff.mp h
  refine am_Y.call0 (M' := am_M128) (as := [.ref 129, .int x1]) (rest := []) (d' := 1) rfl (by omega) rfl rfl (t_m_isThere x1 M q1 e_q1) ?_
  refine am_Y.br (c := q1 = (0 : Int32)) _ (t := 24) (u := 8) (lv' := [(0, .ref 129), (1, .int x1)]) (st' := []) (h' := hp M) rfl (fun hc => ?_) (fun hc => ?_)
  · replace h := (if_pos hc).symm.trans h
    refine am_Y.run (k := 1) (pc' := 25) (lv' := [(0, .ref 129), (1, .int x1)]) (st' := [.int (0 : Int32)]) (h' := hp M) rfl ?_
    obtain rfl := Option.some.inj h
    exact am_Y.ret rfl
  · replace h := (if_neg hc).symm.trans h
    refine am_Y.run (k := 5) (pc' := 17) (lv' := [(0, .ref 129), (1, .int x1)]) (st' := [.int (40 : Int32), .int (gi M 130 8)]) (h' := hp M) rfl ?_
    refine am_Y.br (c := (40 : Int32) ≤ (gi M 130 8)) _ (t := 24) (u := 20) (lv' := [(0, .ref 129), (1, .int x1)]) (st' := []) (h' := hp M) rfl (fun hc => ?_) (fun hc => ?_)
    · replace h := (if_pos hc).symm.trans h
      refine am_Y.run (k := 1) (pc' := 25) (lv' := [(0, .ref 129), (1, .int x1)]) (st' := [.int (0 : Int32)]) (h' := hp M) rfl ?_
      obtain rfl := Option.some.inj h
      exact am_Y.ret rfl
    · replace h := (if_neg hc).symm.trans h
      refine am_Y.run (k := 2) (pc' := 25) (lv' := [(0, .ref 129), (1, .int x1)]) (st' := [.int (1 : Int32)]) (h' := hp M) rfl ?_
      obtain rfl := Option.some.inj h
      exact am_Y.ret rfl
set_option maxRecDepth 100000 in
theorem t_m_keep_155 {S : Nat × (Nat → Int32)} (N : Nat) (K147 : Int32 → Int32 → Mem → Option Mem) (hK147 : ∀ (x1 : Int32) (x2 : Int32) (M : Mem) (M' : Mem), K147 x1 x2 M = some M' → am_Y S 1 0 0 am_M117 147 [(0, .ref 129), (1, .int x1), (2, .int x2)] [] (hp M) none (hp M')) : ∀ (n : Nat) (x1 : Int32) (x2 : Int32) (x3 : Int32) (M : Mem) (M' : Mem), f_m_keep_155 N K147 n x1 x2 x3 M = some M' → am_Y S 1 0 0 am_M117 155 [(0, .ref 129), (1, .int x1), (2, .int x2), (3, .int x3)] [] (hp M) none (hp M') := by
  intro n
  induction n with
  | zero =>
    intro x1 x2 x3 M M' h
    cases h
  | succ n ih =>
    intro x1 x2 x3 M M' h
    rw [f_m_keep_155] at h
    refine am_Y.run (k := 2) (pc' := 157) (lv' := [(0, .ref 129), (1, .int x1), (2, .int x2), (3, .int x3)]) (st' := [.int (4 : Int32), .int x3]) (h' := hp M) rfl ?_
    refine am_Y.br (c := (4 : Int32) ≤ x3) _ (t := 189) (u := 160) (lv' := [(0, .ref 129), (1, .int x1), (2, .int x2), (3, .int x3)]) (st' := []) (h' := hp M) rfl (fun hc => ?_) (fun hc => ?_)
    · replace h := (if_pos hc).symm.trans h
      refine am_Y.run (k := 2) (pc' := 147) (lv' := [(2, .int (x2 + (1 : Int32))), (0, .ref 129), (1, .int x1), (3, .int x3)]) (st' := []) (h' := hp M) rfl ?_
      refine am_Y.weak (lv2 := [(0, .ref 129), (1, .int x1), (2, .int (x2 + (1 : Int32)))]) rfl rfl ⟨rfl, rfl, rfl, trivial⟩ ?_
      exact hK147 x1 (x2 + (1 : Int32)) M _ h
    · replace h := (if_neg hc).symm.trans h
      refine am_Y.run (k := 16) (pc' := 179) (lv' := [(0, .ref 129), (1, .int x1), (2, .int x2), (3, .int x3)]) (st' := [.int ((3 : Int32) + x3), .int x2, .ref 129, .int (((x1 + (7 : Int32)) + ((4 : Int32) * x2)) + x3), .ref 130]) (h' := hp M) rfl ?_
      obtain ⟨q5, e_q5, h⟩ := Option.bind_eq_some_iff.mp h
      refine am_Y.call0 (M' := am_M146) (as := [.ref 129, .int x2, .int ((3 : Int32) + x3)]) (rest := [.int (((x1 + (7 : Int32)) + ((4 : Int32) * x2)) + x3), .ref 130]) (d' := 0) rfl (by omega) rfl rfl (t_m_get x2 ((3 : Int32) + x3) M q5 e_q5) ?_
      obtain ⟨g, h⟩ := am_itg h
      refine am_Y.iast (a := 125) (n := 3826) rfl rfl g ?_
      refine am_Y.run (k := 0) (pc' := _) (lv' := [(0, .ref 129), (1, .int x1), (2, .int x2), (3, .int x3)]) (st' := []) (h' := hp (si M 130 ((((x1 + (7 : Int32)) + ((4 : Int32) * x2)) + x3)).toNatClampNeg q5)) rfl ?_
      obtain ⟨q6, e_q6, h⟩ := Option.bind_eq_some_iff.mp h
      rw [Option.some.inj e_q6]
      refine am_Y.run (k := 2) (pc' := 155) (lv' := [(3, .int (x3 + (1 : Int32))), (0, .ref 129), (1, .int x1), (2, .int x2)]) (st' := []) (h' := hp q6) rfl ?_
      refine am_Y.weak (lv2 := [(0, .ref 129), (1, .int x1), (2, .int x2), (3, .int (x3 + (1 : Int32)))]) rfl rfl ⟨rfl, rfl, rfl, rfl, trivial⟩ ?_
      exact ih x1 x2 (x3 + (1 : Int32)) q6 _ h
set_option maxRecDepth 100000 in
theorem t_m_keep_197 {S : Nat × (Nat → Int32)} (N : Nat) : ∀ (n : Nat) (x1 : Int32) (x2 : Int32) (M : Mem) (M' : Mem), f_m_keep_197 N n x1 x2 M = some M' → am_Y S 1 0 0 am_M117 197 [(0, .ref 129), (1, .int x1), (2, .int x2)] [] (hp M) none (hp M') := by
  intro n
  induction n with
  | zero =>
    intro x1 x2 M M' h
    cases h
  | succ n ih =>
    intro x1 x2 M M' h
    rw [f_m_keep_197] at h
    refine am_Y.run (k := 2) (pc' := 200) (lv' := [(0, .ref 129), (1, .int x1), (2, .int x2)]) (st' := [.int (40 : Int32), .int x2]) (h' := hp M) rfl ?_
    refine am_Y.br (c := (40 : Int32) ≤ x2) _ (t := 229) (u := 203) (lv' := [(0, .ref 129), (1, .int x1), (2, .int x2)]) (st' := []) (h' := hp M) rfl (fun hc => ?_) (fun hc => ?_)
    · replace h := (if_pos hc).symm.trans h
      refine am_Y.run (k := 8) (pc' := 240) (lv' := [(0, .ref 129), (1, .int x1), (2, .int x2)]) (st' := []) (h' := hp (si M 130 7 ((gi M 130 7) + (1 : Int32)))) rfl ?_
      obtain ⟨q7, e_q7, h⟩ := Option.bind_eq_some_iff.mp h
      rw [Option.some.inj e_q7]
      obtain rfl := Option.some.inj h
      exact am_Y.ret rfl
    · replace h := (if_neg hc).symm.trans h
      refine am_Y.run (k := 12) (pc' := 221) (lv' := [(0, .ref 129), (1, .int x1), (2, .int x2)]) (st' := [.int ((68 : Int32) + x2), .ref 130, .int ((x1 + (39 : Int32)) + x2), .ref 130]) (h' := hp M) rfl ?_
      obtain ⟨g, h⟩ := am_itg h
      refine am_Y.iald (a := 125) (n := 3826) rfl rfl g ?_
      obtain ⟨g, h⟩ := am_itg h
      refine am_Y.iast (a := 125) (n := 3826) rfl rfl g ?_
      refine am_Y.run (k := 0) (pc' := _) (lv' := [(0, .ref 129), (1, .int x1), (2, .int x2)]) (st' := []) (h' := hp (si M 130 (((x1 + (39 : Int32)) + x2)).toNatClampNeg (gi M 130 (((68 : Int32) + x2)).toNatClampNeg))) rfl ?_
      obtain ⟨q8, e_q8, h⟩ := Option.bind_eq_some_iff.mp h
      rw [Option.some.inj e_q8]
      refine am_Y.run (k := 2) (pc' := 197) (lv' := [(2, .int (x2 + (1 : Int32))), (0, .ref 129), (1, .int x1)]) (st' := []) (h' := hp q8) rfl ?_
      refine am_Y.weak (lv2 := [(0, .ref 129), (1, .int x1), (2, .int (x2 + (1 : Int32)))]) rfl rfl ⟨rfl, rfl, rfl, trivial⟩ ?_
      exact ih x1 (x2 + (1 : Int32)) q8 _ h
set_option maxRecDepth 100000 in
theorem t_m_keep_147 {S : Nat × (Nat → Int32)} (N : Nat) : ∀ (n : Nat) (x1 : Int32) (x2 : Int32) (M : Mem) (M' : Mem), f_m_keep_147 N n x1 x2 M = some M' → am_Y S 1 0 0 am_M117 147 [(0, .ref 129), (1, .int x1), (2, .int x2)] [] (hp M) none (hp M') := by
  intro n
  induction n with
  | zero =>
    intro x1 x2 M M' h
    cases h
  | succ n ih =>
    intro x1 x2 M M' h
    rw [f_m_keep_147] at h
    refine am_Y.run (k := 2) (pc' := 150) (lv' := [(0, .ref 129), (1, .int x1), (2, .int x2)]) (st' := [.int (8 : Int32), .int x2]) (h' := hp M) rfl ?_
    refine am_Y.br (c := (8 : Int32) ≤ x2) _ (t := 195) (u := 153) (lv' := [(0, .ref 129), (1, .int x1), (2, .int x2)]) (st' := []) (h' := hp M) rfl (fun hc => ?_) (fun hc => ?_)
    · replace h := (if_pos hc).symm.trans h
      refine am_Y.run (k := 2) (pc' := 197) (lv' := [(2, .int (0 : Int32)), (0, .ref 129), (1, .int x1)]) (st' := []) (h' := hp M) rfl ?_
      refine am_Y.weak (lv2 := [(0, .ref 129), (1, .int x1), (2, .int (0 : Int32))]) rfl rfl ⟨rfl, rfl, rfl, trivial⟩ ?_
      exact t_m_keep_197 N N x1 (0 : Int32) M _ h
    · replace h := (if_neg hc).symm.trans h
      refine am_Y.run (k := 2) (pc' := 155) (lv' := [(3, .int (0 : Int32)), (0, .ref 129), (1, .int x1), (2, .int x2)]) (st' := []) (h' := hp M) rfl ?_
      refine am_Y.weak (lv2 := [(0, .ref 129), (1, .int x1), (2, .int x2), (3, .int (0 : Int32))]) rfl rfl ⟨rfl, rfl, rfl, rfl, trivial⟩ ?_
      exact t_m_keep_155 N _ ih N x1 x2 (0 : Int32) M _ h
set_option maxRecDepth 100000 in
theorem t_m_keep_85 {S : Nat × (Nat → Int32)} (N : Nat) : ∀ (n : Nat) (x1 : Int32) (x2 : Int32) (M : Mem) (M' : Mem), f_m_keep_85 N n x1 x2 M = some M' → am_Y S 1 0 0 am_M117 85 [(0, .ref 129), (1, .int x1), (2, .int x2)] [] (hp M) none (hp M') := by
  intro n
  induction n with
  | zero =>
    intro x1 x2 M M' h
    cases h
  | succ n ih =>
    intro x1 x2 M M' h
    rw [f_m_keep_85] at h
    refine am_Y.run (k := 2) (pc' := 87) (lv' := [(0, .ref 129), (1, .int x1), (2, .int x2)]) (st' := [.int (4 : Int32), .int x2]) (h' := hp M) rfl ?_
    refine am_Y.br (c := (4 : Int32) ≤ x2) _ (t := 114) (u := 90) (lv' := [(0, .ref 129), (1, .int x1), (2, .int x2)]) (st' := []) (h' := hp M) rfl (fun hc => ?_) (fun hc => ?_)
    · replace h := (if_pos hc).symm.trans h
      refine am_Y.run (k := 9) (pc' := 128) (lv' := [(0, .ref 129), (1, .int x1), (2, .int x2)]) (st' := [.int (gi M 130 8), .int (x1 + (5 : Int32)), .ref 130]) (h' := hp M) rfl ?_
      obtain ⟨g, h⟩ := am_itg h
      refine am_Y.iast (a := 125) (n := 3826) rfl rfl g ?_
      refine am_Y.run (k := 0) (pc' := _) (lv' := [(0, .ref 129), (1, .int x1), (2, .int x2)]) (st' := []) (h' := hp (si M 130 ((x1 + (5 : Int32))).toNatClampNeg (gi M 130 8))) rfl ?_
      obtain ⟨q2, e_q2, h⟩ := Option.bind_eq_some_iff.mp h
      rw [Option.some.inj e_q2]
      refine am_Y.run (k := 9) (pc' := 144) (lv' := [(0, .ref 129), (1, .int x1), (2, .int x2)]) (st' := [.int (gi q2 130 9), .int (x1 + (6 : Int32)), .ref 130]) (h' := hp q2) rfl ?_
      obtain ⟨g, h⟩ := am_itg h
      refine am_Y.iast (a := 125) (n := 3826) rfl rfl g ?_
      refine am_Y.run (k := 0) (pc' := _) (lv' := [(0, .ref 129), (1, .int x1), (2, .int x2)]) (st' := []) (h' := hp (si q2 130 ((x1 + (6 : Int32))).toNatClampNeg (gi q2 130 9))) rfl ?_
      obtain ⟨q3, e_q3, h⟩ := Option.bind_eq_some_iff.mp h
      rw [Option.some.inj e_q3]
      refine am_Y.run (k := 2) (pc' := 147) (lv' := [(2, .int (0 : Int32)), (0, .ref 129), (1, .int x1)]) (st' := []) (h' := hp q3) rfl ?_
      refine am_Y.weak (lv2 := [(0, .ref 129), (1, .int x1), (2, .int (0 : Int32))]) rfl rfl ⟨rfl, rfl, rfl, trivial⟩ ?_
      exact t_m_keep_147 N N x1 (0 : Int32) q3 _ h
    · replace h := (if_neg hc).symm.trans h
      refine am_Y.run (k := 12) (pc' := 106) (lv' := [(0, .ref 129), (1, .int x1), (2, .int x2)]) (st' := [.int ((1 : Int32) + x2), .ref 130, .int ((x1 + (1 : Int32)) + x2), .ref 130]) (h' := hp M) rfl ?_
      obtain ⟨g, h⟩ := am_itg h
      refine am_Y.iald (a := 125) (n := 3826) rfl rfl g ?_
      obtain ⟨g, h⟩ := am_itg h
      refine am_Y.iast (a := 125) (n := 3826) rfl rfl g ?_
      refine am_Y.run (k := 0) (pc' := _) (lv' := [(0, .ref 129), (1, .int x1), (2, .int x2)]) (st' := []) (h' := hp (si M 130 (((x1 + (1 : Int32)) + x2)).toNatClampNeg (gi M 130 (((1 : Int32) + x2)).toNatClampNeg))) rfl ?_
      obtain ⟨q4, e_q4, h⟩ := Option.bind_eq_some_iff.mp h
      rw [Option.some.inj e_q4]
      refine am_Y.run (k := 2) (pc' := 85) (lv' := [(2, .int (x2 + (1 : Int32))), (0, .ref 129), (1, .int x1)]) (st' := []) (h' := hp q4) rfl ?_
      refine am_Y.weak (lv2 := [(0, .ref 129), (1, .int x1), (2, .int (x2 + (1 : Int32)))]) rfl rfl ⟨rfl, rfl, rfl, trivial⟩ ?_
      exact ih x1 (x2 + (1 : Int32)) q4 _ h
set_option maxRecDepth 100000 in
theorem t_m_keep_57 {S : Nat × (Nat → Int32)} (N : Nat) (M : Mem) (M' : Mem) (h : f_m_keep_57 N M = some M') : am_Y S 1 0 0 am_M117 57 [(0, .ref 129)] [] (hp M) none (hp M') := by
  rw [f_m_keep_57] at h
  refine am_Y.run (k := 16) (pc' := 82) (lv' := [(1, .int ((126 : Int32) + ((80 : Int32) * (gi M 130 7)))), (0, .ref 129)]) (st' := [.int (gi M 130 0), .int ((126 : Int32) + ((80 : Int32) * (gi M 130 7))), .ref 130]) (h' := hp M) rfl ?_
  obtain ⟨g, h⟩ := am_itg h
  refine am_Y.iast (a := 125) (n := 3826) rfl rfl g ?_
  refine am_Y.run (k := 0) (pc' := _) (lv' := [(1, .int ((126 : Int32) + ((80 : Int32) * (gi M 130 7)))), (0, .ref 129)]) (st' := []) (h' := hp (si M 130 (((126 : Int32) + ((80 : Int32) * (gi M 130 7)))).toNatClampNeg (gi M 130 0))) rfl ?_
  obtain ⟨q1, e_q1, h⟩ := Option.bind_eq_some_iff.mp h
  rw [Option.some.inj e_q1]
  refine am_Y.run (k := 2) (pc' := 85) (lv' := [(2, .int (0 : Int32)), (1, .int ((126 : Int32) + ((80 : Int32) * (gi M 130 7)))), (0, .ref 129)]) (st' := []) (h' := hp q1) rfl ?_
  refine am_Y.weak (lv2 := [(0, .ref 129), (1, .int ((126 : Int32) + ((80 : Int32) * (gi M 130 7)))), (2, .int (0 : Int32))]) rfl rfl ⟨rfl, rfl, rfl, trivial⟩ ?_
  exact t_m_keep_85 N N ((126 : Int32) + ((80 : Int32) * (gi M 130 7))) (0 : Int32) q1 _ h
set_option maxRecDepth 100000 in
theorem t_m_keep_14 {S : Nat × (Nat → Int32)} (N : Nat) : ∀ (n : Nat) (x1 : Int32) (M : Mem) (M' : Mem), f_m_keep_14 N n x1 M = some M' → am_Y S 1 0 0 am_M117 14 [(0, .ref 129), (1, .int x1)] [] (hp M) none (hp M') := by
  intro n
  induction n with
  | zero =>
    intro x1 M M' h
    cases h
  | succ n ih =>
    intro x1 M M' h
    rw [f_m_keep_14] at h
    refine am_Y.run (k := 2) (pc' := 18) (lv' := [(0, .ref 129), (1, .int x1)]) (st' := [.int (2320 : Int32), .int x1]) (h' := hp M) rfl ?_
    refine am_Y.br (c := (2320 : Int32) ≤ x1) _ (t := 46) (u := 21) (lv' := [(0, .ref 129), (1, .int x1)]) (st' := []) (h' := hp M) rfl (fun hc => ?_) (fun hc => ?_)
    · replace h := (if_pos hc).symm.trans h
      refine am_Y.run (k := 8) (pc' := 57) (lv' := [(0, .ref 129), (1, .int x1)]) (st' := []) (h' := hp (si M 130 7 ((gi M 130 7) - (1 : Int32)))) rfl ?_
      obtain ⟨q9, e_q9, h⟩ := Option.bind_eq_some_iff.mp h
      rw [Option.some.inj e_q9]
      refine am_Y.weak (lv2 := [(0, .ref 129)]) rfl rfl ⟨rfl, trivial⟩ ?_
      exact t_m_keep_57 N q9 _ h
    · replace h := (if_neg hc).symm.trans h
      refine am_Y.run (k := 10) (pc' := 38) (lv' := [(0, .ref 129), (1, .int x1)]) (st' := [.int ((206 : Int32) + x1), .ref 130, .int ((126 : Int32) + x1), .ref 130]) (h' := hp M) rfl ?_
      obtain ⟨g, h⟩ := am_itg h
      refine am_Y.iald (a := 125) (n := 3826) rfl rfl g ?_
      obtain ⟨g, h⟩ := am_itg h
      refine am_Y.iast (a := 125) (n := 3826) rfl rfl g ?_
      refine am_Y.run (k := 0) (pc' := _) (lv' := [(0, .ref 129), (1, .int x1)]) (st' := []) (h' := hp (si M 130 (((126 : Int32) + x1)).toNatClampNeg (gi M 130 (((206 : Int32) + x1)).toNatClampNeg))) rfl ?_
      obtain ⟨q10, e_q10, h⟩ := Option.bind_eq_some_iff.mp h
      rw [Option.some.inj e_q10]
      refine am_Y.run (k := 2) (pc' := 14) (lv' := [(1, .int (x1 + (1 : Int32))), (0, .ref 129)]) (st' := []) (h' := hp q10) rfl ?_
      refine am_Y.weak (lv2 := [(0, .ref 129), (1, .int (x1 + (1 : Int32)))]) rfl rfl ⟨rfl, rfl, trivial⟩ ?_
      exact ih (x1 + (1 : Int32)) q10 _ h
set_option maxRecDepth 100000 in
theorem t_m_keep {S : Nat × (Nat → Int32)} (N : Nat) (M : Mem) (M' : Mem) (h : f_m_keep N M = some M') : am_Y S 1 0 0 am_M117 0 [(0, .ref 129)] [] (hp M) none (hp M') := by
  rw [f_m_keep] at h
  refine am_Y.run (k := 5) (pc' := 9) (lv' := [(0, .ref 129)]) (st' := [.int (30 : Int32), .int (gi M 130 7)]) (h' := hp M) rfl ?_
  refine am_Y.br (c := (gi M 130 7) = (30 : Int32)) _ (t := 12) (u := 57) (lv' := [(0, .ref 129)]) (st' := []) (h' := hp M) rfl (fun hc => ?_) (fun hc => ?_)
  · replace h := (if_pos hc).symm.trans h
    refine am_Y.run (k := 2) (pc' := 14) (lv' := [(1, .int (0 : Int32)), (0, .ref 129)]) (st' := []) (h' := hp M) rfl ?_
    refine am_Y.weak (lv2 := [(0, .ref 129), (1, .int (0 : Int32))]) rfl rfl ⟨rfl, rfl, trivial⟩ ?_
    exact t_m_keep_14 N N (0 : Int32) M _ h
  · replace h := (if_neg hc).symm.trans h
    refine am_Y.weak (lv2 := [(0, .ref 129)]) rfl rfl ⟨rfl, trivial⟩ ?_
    exact t_m_keep_57 N M _ h
