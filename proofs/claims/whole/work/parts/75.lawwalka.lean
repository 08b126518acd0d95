/-! AM does the law as the function says. -/
set_option maxRecDepth 100000 in
theorem t_law_236 {S : Nat × (Nat → Int32)} (N : Nat) (K18 : Int32 → Mem → Option (Int32 × Mem)) (hK18 : ∀ (x3 : Int32) (M : Mem) (r : Int32) (M' : Mem), K18 x3 M = some (r, M') → am_Y S 68 0 0 am_ML 18 [(0, .ref 0), (1, .ref 5), (2, .ref 129), (3, .int x3)] [] (hp M) (some (.int r)) (hp M')) (x3 : Int32) (M : Mem) (r : Int32) (M' : Mem) (h : f_law_236 S N K18 x3 M = some (r, M')) : am_Y S 68 0 0 am_ML 236 [(0, .ref 0), (1, .ref 5), (2, .ref 129), (3, .int x3)] [] (hp M) (some (.int r)) (hp M') := by
  rw [f_law_236] at h
  refine am_Y.run (k := 5) (pc' := 241) (lv' := [(0, .ref 0), (1, .ref 5), (2, .ref 129), (3, .int x3)]) (st' := [.int (x3 + (1 : Int32)), .ref 0, .ref 5]) (h' := hp M) rfl ?_
  obtain ⟨g, h⟩ := am_itg h
  refine am_Y.sald rfl g ?_
  refine am_Y.run (k := 4) (pc' := 246) (lv' := [(0, .ref 0), (1, .ref 5), (2, .ref 129), (3, .int x3)]) (st' := [.int (x3 + (2 : Int32)), .ref 0, .int (S.2 ((x3 + (1 : Int32))).toNatClampNeg), .ref 5]) (h' := hp M) rfl ?_
  obtain ⟨g, h⟩ := am_itg h
  refine am_Y.sald rfl g ?_
  refine am_Y.run (k := 4) (pc' := 251) (lv' := [(0, .ref 0), (1, .ref 5), (2, .ref 129), (3, .int x3)]) (st' := [.int (x3 + (3 : Int32)), .ref 0, .int (S.2 ((x3 + (2 : Int32))).toNatClampNeg), .int (S.2 ((x3 + (1 : Int32))).toNatClampNeg), .ref 5]) (h' := hp M) rfl ?_
  obtain ⟨g, h⟩ := am_itg h
  refine am_Y.sald rfl g ?_
  obtain ⟨q123, e_q123, h⟩ := Option.bind_eq_some_iff.mp h
  refine am_Y.call0 (M' := am_M2) (as := [.ref 5, .int (S.2 ((x3 + (1 : Int32))).toNatClampNeg), .int (S.2 ((x3 + (2 : Int32))).toNatClampNeg), .int (S.2 ((x3 + (3 : Int32))).toNatClampNeg)]) (rest := []) (d' := 2) rfl (by omega) rfl rfl (t_w_guest (S.2 ((x3 + (1 : Int32))).toNatClampNeg) (S.2 ((x3 + (2 : Int32))).toNatClampNeg) (S.2 ((x3 + (3 : Int32))).toNatClampNeg) M q123.1 q123.2 e_q123) ?_
  refine am_Y.run (k := 5) (pc' := 260) (lv' := [(0, .ref 0), (1, .ref 5), (2, .ref 129), (3, .int x3)]) (st' := [.int (x3 + (1 : Int32)), .ref 0, .ref 129, .int q123.1]) (h' := hp q123.2) rfl ?_
  obtain ⟨g, h⟩ := am_itg h
  refine am_Y.sald rfl g ?_
  refine am_Y.run (k := 4) (pc' := 265) (lv' := [(0, .ref 0), (1, .ref 5), (2, .ref 129), (3, .int x3)]) (st' := [.int (x3 + (2 : Int32)), .ref 0, .int (S.2 ((x3 + (1 : Int32))).toNatClampNeg), .ref 129, .int q123.1]) (h' := hp q123.2) rfl ?_
  obtain ⟨g, h⟩ := am_itg h
  refine am_Y.sald rfl g ?_
  refine am_Y.run (k := 4) (pc' := 270) (lv' := [(0, .ref 0), (1, .ref 5), (2, .ref 129), (3, .int x3)]) (st' := [.int (x3 + (3 : Int32)), .ref 0, .int (S.2 ((x3 + (2 : Int32))).toNatClampNeg), .int (S.2 ((x3 + (1 : Int32))).toNatClampNeg), .ref 129, .int q123.1]) (h' := hp q123.2) rfl ?_
  obtain ⟨g, h⟩ := am_itg h
  refine am_Y.sald rfl g ?_
  obtain ⟨q124, e_q124, h⟩ := Option.bind_eq_some_iff.mp h
  refine am_Y.call0 (M' := am_M3) (as := [.ref 129, .int (S.2 ((x3 + (1 : Int32))).toNatClampNeg), .int (S.2 ((x3 + (2 : Int32))).toNatClampNeg), .int (S.2 ((x3 + (3 : Int32))).toNatClampNeg)]) (rest := [.int q123.1]) (d' := 2) rfl (by omega) rfl rfl (t_m_guest (S.2 ((x3 + (1 : Int32))).toNatClampNeg) (S.2 ((x3 + (2 : Int32))).toNatClampNeg) (S.2 ((x3 + (3 : Int32))).toNatClampNeg) q123.2 q124.1 q124.2 e_q124) ?_
  refine am_Y.br (c := q123.1 = q124.1) _ (t := 1792) (u := 277) (lv' := [(0, .ref 0), (1, .ref 5), (2, .ref 129), (3, .int x3)]) (st' := []) (h' := hp q124.2) rfl (fun hc => ?_) (fun hc => ?_)
  · replace h := (if_pos hc).symm.trans h
    refine am_Y.run (k := 2) (pc' := 18) (lv' := [(3, .int (x3 + (6 : Int32))), (0, .ref 0), (1, .ref 5), (2, .ref 129)]) (st' := []) (h' := hp q124.2) rfl ?_
    refine am_Y.weak (lv2 := [(0, .ref 0), (1, .ref 5), (2, .ref 129), (3, .int (x3 + (6 : Int32)))]) rfl rfl ⟨rfl, rfl, rfl, rfl, trivial⟩ ?_
    exact hK18 (x3 + (6 : Int32)) q124.2 _ _ h
  · replace h := (if_neg hc).symm.trans h
    refine am_Y.run (k := 1) (pc' := 278) (lv' := [(0, .ref 0), (1, .ref 5), (2, .ref 129), (3, .int x3)]) (st' := [.int (0 : Int32)]) (h' := hp q124.2) rfl ?_
    obtain ⟨rfl, rfl⟩ := Prod.mk.inj (Option.some.inj h)
    exact am_Y.ret rfl
set_option maxRecDepth 100000 in
theorem t_law_279 {S : Nat × (Nat → Int32)} (N : Nat) (K18 : Int32 → Mem → Option (Int32 × Mem)) (hK18 : ∀ (x3 : Int32) (M : Mem) (r : Int32) (M' : Mem), K18 x3 M = some (r, M') → am_Y S 68 0 0 am_ML 18 [(0, .ref 0), (1, .ref 5), (2, .ref 129), (3, .int x3)] [] (hp M) (some (.int r)) (hp M')) (x3 : Int32) (M : Mem) (r : Int32) (M' : Mem) (h : f_law_279 S N K18 x3 M = some (r, M')) : am_Y S 68 0 0 am_ML 279 [(0, .ref 0), (1, .ref 5), (2, .ref 129), (3, .int x3)] [] (hp M) (some (.int r)) (hp M') := by
  rw [f_law_279] at h
  refine am_Y.run (k := 5) (pc' := 284) (lv' := [(0, .ref 0), (1, .ref 5), (2, .ref 129), (3, .int x3)]) (st' := [.int (x3 + (1 : Int32)), .ref 0, .ref 5]) (h' := hp M) rfl ?_
  obtain ⟨g, h⟩ := am_itg h
  refine am_Y.sald rfl g ?_
  refine am_Y.run (k := 4) (pc' := 289) (lv' := [(0, .ref 0), (1, .ref 5), (2, .ref 129), (3, .int x3)]) (st' := [.int (x3 + (2 : Int32)), .ref 0, .int (S.2 ((x3 + (1 : Int32))).toNatClampNeg), .ref 5]) (h' := hp M) rfl ?_
  obtain ⟨g, h⟩ := am_itg h
  refine am_Y.sald rfl g ?_
  refine am_Y.run (k := 4) (pc' := 294) (lv' := [(0, .ref 0), (1, .ref 5), (2, .ref 129), (3, .int x3)]) (st' := [.int (x3 + (3 : Int32)), .ref 0, .int (S.2 ((x3 + (2 : Int32))).toNatClampNeg), .int (S.2 ((x3 + (1 : Int32))).toNatClampNeg), .ref 5]) (h' := hp M) rfl ?_
  obtain ⟨g, h⟩ := am_itg h
  refine am_Y.sald rfl g ?_
  refine am_Y.run (k := 4) (pc' := 299) (lv' := [(0, .ref 0), (1, .ref 5), (2, .ref 129), (3, .int x3)]) (st' := [.int (x3 + (4 : Int32)), .ref 0, .int (S.2 ((x3 + (3 : Int32))).toNatClampNeg), .int (S.2 ((x3 + (2 : Int32))).toNatClampNeg), .int (S.2 ((x3 + (1 : Int32))).toNatClampNeg), .ref 5]) (h' := hp M) rfl ?_
  obtain ⟨g, h⟩ := am_itg h
  refine am_Y.sald rfl g ?_
  refine am_Y.run (k := 4) (pc' := 304) (lv' := [(0, .ref 0), (1, .ref 5), (2, .ref 129), (3, .int x3)]) (st' := [.int (x3 + (5 : Int32)), .ref 0, .int (S.2 ((x3 + (4 : Int32))).toNatClampNeg), .int (S.2 ((x3 + (3 : Int32))).toNatClampNeg), .int (S.2 ((x3 + (2 : Int32))).toNatClampNeg), .int (S.2 ((x3 + (1 : Int32))).toNatClampNeg), .ref 5]) (h' := hp M) rfl ?_
  obtain ⟨g, h⟩ := am_itg h
  refine am_Y.sald rfl g ?_
  obtain ⟨q121, e_q121, h⟩ := Option.bind_eq_some_iff.mp h
  refine am_Y.call0 (M' := am_M4) (as := [.ref 5, .int (S.2 ((x3 + (1 : Int32))).toNatClampNeg), .int (S.2 ((x3 + (2 : Int32))).toNatClampNeg), .int (S.2 ((x3 + (3 : Int32))).toNatClampNeg), .int (S.2 ((x3 + (4 : Int32))).toNatClampNeg), .int (S.2 ((x3 + (5 : Int32))).toNatClampNeg)]) (rest := []) (d' := 2) rfl (by omega) rfl rfl (t_w_feed N (S.2 ((x3 + (1 : Int32))).toNatClampNeg) (S.2 ((x3 + (2 : Int32))).toNatClampNeg) (S.2 ((x3 + (3 : Int32))).toNatClampNeg) (S.2 ((x3 + (4 : Int32))).toNatClampNeg) (S.2 ((x3 + (5 : Int32))).toNatClampNeg) M q121.1 q121.2 e_q121) ?_
  refine am_Y.run (k := 5) (pc' := 313) (lv' := [(0, .ref 0), (1, .ref 5), (2, .ref 129), (3, .int x3)]) (st' := [.int (x3 + (1 : Int32)), .ref 0, .ref 129, .int q121.1]) (h' := hp q121.2) rfl ?_
  obtain ⟨g, h⟩ := am_itg h
  refine am_Y.sald rfl g ?_
  refine am_Y.run (k := 4) (pc' := 318) (lv' := [(0, .ref 0), (1, .ref 5), (2, .ref 129), (3, .int x3)]) (st' := [.int (x3 + (2 : Int32)), .ref 0, .int (S.2 ((x3 + (1 : Int32))).toNatClampNeg), .ref 129, .int q121.1]) (h' := hp q121.2) rfl ?_
  obtain ⟨g, h⟩ := am_itg h
  refine am_Y.sald rfl g ?_
  refine am_Y.run (k := 4) (pc' := 323) (lv' := [(0, .ref 0), (1, .ref 5), (2, .ref 129), (3, .int x3)]) (st' := [.int (x3 + (3 : Int32)), .ref 0, .int (S.2 ((x3 + (2 : Int32))).toNatClampNeg), .int (S.2 ((x3 + (1 : Int32))).toNatClampNeg), .ref 129, .int q121.1]) (h' := hp q121.2) rfl ?_
  obtain ⟨g, h⟩ := am_itg h
  refine am_Y.sald rfl g ?_
  refine am_Y.run (k := 4) (pc' := 328) (lv' := [(0, .ref 0), (1, .ref 5), (2, .ref 129), (3, .int x3)]) (st' := [.int (x3 + (4 : Int32)), .ref 0, .int (S.2 ((x3 + (3 : Int32))).toNatClampNeg), .int (S.2 ((x3 + (2 : Int32))).toNatClampNeg), .int (S.2 ((x3 + (1 : Int32))).toNatClampNeg), .ref 129, .int q121.1]) (h' := hp q121.2) rfl ?_
  obtain ⟨g, h⟩ := am_itg h
  refine am_Y.sald rfl g ?_
  refine am_Y.run (k := 4) (pc' := 333) (lv' := [(0, .ref 0), (1, .ref 5), (2, .ref 129), (3, .int x3)]) (st' := [.int (x3 + (5 : Int32)), .ref 0, .int (S.2 ((x3 + (4 : Int32))).toNatClampNeg), .int (S.2 ((x3 + (3 : Int32))).toNatClampNeg), .int (S.2 ((x3 + (2 : Int32))).toNatClampNeg), .int (S.2 ((x3 + (1 : Int32))).toNatClampNeg), .ref 129, .int q121.1]) (h' := hp q121.2) rfl ?_
  obtain ⟨g, h⟩ := am_itg h
  refine am_Y.sald rfl g ?_
  obtain ⟨q122, e_q122, h⟩ := Option.bind_eq_some_iff.mp h
  refine am_Y.call0 (M' := am_M5) (as := [.ref 129, .int (S.2 ((x3 + (1 : Int32))).toNatClampNeg), .int (S.2 ((x3 + (2 : Int32))).toNatClampNeg), .int (S.2 ((x3 + (3 : Int32))).toNatClampNeg), .int (S.2 ((x3 + (4 : Int32))).toNatClampNeg), .int (S.2 ((x3 + (5 : Int32))).toNatClampNeg)]) (rest := [.int q121.1]) (d' := 1) rfl (by omega) rfl rfl (t_m_feed N (S.2 ((x3 + (1 : Int32))).toNatClampNeg) (S.2 ((x3 + (2 : Int32))).toNatClampNeg) (S.2 ((x3 + (3 : Int32))).toNatClampNeg) (S.2 ((x3 + (4 : Int32))).toNatClampNeg) (S.2 ((x3 + (5 : Int32))).toNatClampNeg) q121.2 q122.1 q122.2 e_q122) ?_
  refine am_Y.br (c := q121.1 = q122.1) _ (t := 1792) (u := 340) (lv' := [(0, .ref 0), (1, .ref 5), (2, .ref 129), (3, .int x3)]) (st' := []) (h' := hp q122.2) rfl (fun hc => ?_) (fun hc => ?_)
  · replace h := (if_pos hc).symm.trans h
    refine am_Y.run (k := 2) (pc' := 18) (lv' := [(3, .int (x3 + (6 : Int32))), (0, .ref 0), (1, .ref 5), (2, .ref 129)]) (st' := []) (h' := hp q122.2) rfl ?_
    refine am_Y.weak (lv2 := [(0, .ref 0), (1, .ref 5), (2, .ref 129), (3, .int (x3 + (6 : Int32)))]) rfl rfl ⟨rfl, rfl, rfl, rfl, trivial⟩ ?_
    exact hK18 (x3 + (6 : Int32)) q122.2 _ _ h
  · replace h := (if_neg hc).symm.trans h
    refine am_Y.run (k := 1) (pc' := 341) (lv' := [(0, .ref 0), (1, .ref 5), (2, .ref 129), (3, .int x3)]) (st' := [.int (0 : Int32)]) (h' := hp q122.2) rfl ?_
    obtain ⟨rfl, rfl⟩ := Prod.mk.inj (Option.some.inj h)
    exact am_Y.ret rfl
set_option maxRecDepth 100000 in
theorem t_law_342 {S : Nat × (Nat → Int32)} (N : Nat) (K18 : Int32 → Mem → Option (Int32 × Mem)) (hK18 : ∀ (x3 : Int32) (M : Mem) (r : Int32) (M' : Mem), K18 x3 M = some (r, M') → am_Y S 68 0 0 am_ML 18 [(0, .ref 0), (1, .ref 5), (2, .ref 129), (3, .int x3)] [] (hp M) (some (.int r)) (hp M')) (x3 : Int32) (M : Mem) (r : Int32) (M' : Mem) (h : f_law_342 S N K18 x3 M = some (r, M')) : am_Y S 68 0 0 am_ML 342 [(0, .ref 0), (1, .ref 5), (2, .ref 129), (3, .int x3)] [] (hp M) (some (.int r)) (hp M') := by
  rw [f_law_342] at h
  refine am_Y.run (k := 5) (pc' := 347) (lv' := [(0, .ref 0), (1, .ref 5), (2, .ref 129), (3, .int x3)]) (st' := [.int (x3 + (1 : Int32)), .ref 0, .ref 5]) (h' := hp M) rfl ?_
  obtain ⟨g, h⟩ := am_itg h
  refine am_Y.sald rfl g ?_
  obtain ⟨q119, e_q119, h⟩ := Option.bind_eq_some_iff.mp h
  refine am_Y.call0 (M' := am_M6) (as := [.ref 5, .int (S.2 ((x3 + (1 : Int32))).toNatClampNeg)]) (rest := []) (d' := 1) rfl (by omega) rfl rfl (t_w_end (S.2 ((x3 + (1 : Int32))).toNatClampNeg) M q119.1 q119.2 e_q119) ?_
  refine am_Y.run (k := 5) (pc' := 356) (lv' := [(0, .ref 0), (1, .ref 5), (2, .ref 129), (3, .int x3)]) (st' := [.int (x3 + (1 : Int32)), .ref 0, .ref 129, .int q119.1]) (h' := hp q119.2) rfl ?_
  obtain ⟨g, h⟩ := am_itg h
  refine am_Y.sald rfl g ?_
  obtain ⟨q120, e_q120, h⟩ := Option.bind_eq_some_iff.mp h
  refine am_Y.call0 (M' := am_M7) (as := [.ref 129, .int (S.2 ((x3 + (1 : Int32))).toNatClampNeg)]) (rest := [.int q119.1]) (d' := 1) rfl (by omega) rfl rfl (t_m_end (S.2 ((x3 + (1 : Int32))).toNatClampNeg) q119.2 q120.1 q120.2 e_q120) ?_
  refine am_Y.br (c := q119.1 = q120.1) _ (t := 1792) (u := 363) (lv' := [(0, .ref 0), (1, .ref 5), (2, .ref 129), (3, .int x3)]) (st' := []) (h' := hp q120.2) rfl (fun hc => ?_) (fun hc => ?_)
  · replace h := (if_pos hc).symm.trans h
    refine am_Y.run (k := 2) (pc' := 18) (lv' := [(3, .int (x3 + (6 : Int32))), (0, .ref 0), (1, .ref 5), (2, .ref 129)]) (st' := []) (h' := hp q120.2) rfl ?_
    refine am_Y.weak (lv2 := [(0, .ref 0), (1, .ref 5), (2, .ref 129), (3, .int (x3 + (6 : Int32)))]) rfl rfl ⟨rfl, rfl, rfl, rfl, trivial⟩ ?_
    exact hK18 (x3 + (6 : Int32)) q120.2 _ _ h
  · replace h := (if_neg hc).symm.trans h
    refine am_Y.run (k := 1) (pc' := 364) (lv' := [(0, .ref 0), (1, .ref 5), (2, .ref 129), (3, .int x3)]) (st' := [.int (0 : Int32)]) (h' := hp q120.2) rfl ?_
    obtain ⟨rfl, rfl⟩ := Prod.mk.inj (Option.some.inj h)
    exact am_Y.ret rfl
set_option maxRecDepth 100000 in
theorem t_law_365 {S : Nat × (Nat → Int32)} (N : Nat) (K18 : Int32 → Mem → Option (Int32 × Mem)) (hK18 : ∀ (x3 : Int32) (M : Mem) (r : Int32) (M' : Mem), K18 x3 M = some (r, M') → am_Y S 68 0 0 am_ML 18 [(0, .ref 0), (1, .ref 5), (2, .ref 129), (3, .int x3)] [] (hp M) (some (.int r)) (hp M')) (x3 : Int32) (M : Mem) (r : Int32) (M' : Mem) (h : f_law_365 S N K18 x3 M = some (r, M')) : am_Y S 68 0 0 am_ML 365 [(0, .ref 0), (1, .ref 5), (2, .ref 129), (3, .int x3)] [] (hp M) (some (.int r)) (hp M') := by
  rw [f_law_365] at h
  refine am_Y.run (k := 1) (pc' := 366) (lv' := [(0, .ref 0), (1, .ref 5), (2, .ref 129), (3, .int x3)]) (st' := [.ref 5]) (h' := hp M) rfl ?_
  obtain ⟨q117, e_q117, h⟩ := Option.bind_eq_some_iff.mp h
  refine am_Y.call0 (M' := am_M8) (as := [.ref 5]) (rest := []) (d' := 67) rfl (by omega) rfl rfl (t_w_text N M q117.1 q117.2 e_q117) ?_
  refine am_Y.run (k := 1) (pc' := 370) (lv' := [(0, .ref 0), (1, .ref 5), (2, .ref 129), (3, .int x3)]) (st' := [.ref 129, .int q117.1]) (h' := hp q117.2) rfl ?_
  obtain ⟨q118, e_q118, h⟩ := Option.bind_eq_some_iff.mp h
  refine am_Y.call0 (M' := am_M9) (as := [.ref 129]) (rest := [.int q117.1]) (d' := 12) rfl (by omega) rfl rfl (t_m_text N q117.2 q118.1 q118.2 e_q118) ?_
  refine am_Y.br (c := q117.1 = q118.1) _ (t := 1792) (u := 376) (lv' := [(0, .ref 0), (1, .ref 5), (2, .ref 129), (3, .int x3)]) (st' := []) (h' := hp q118.2) rfl (fun hc => ?_) (fun hc => ?_)
  · replace h := (if_pos hc).symm.trans h
    refine am_Y.run (k := 2) (pc' := 18) (lv' := [(3, .int (x3 + (6 : Int32))), (0, .ref 0), (1, .ref 5), (2, .ref 129)]) (st' := []) (h' := hp q118.2) rfl ?_
    refine am_Y.weak (lv2 := [(0, .ref 0), (1, .ref 5), (2, .ref 129), (3, .int (x3 + (6 : Int32)))]) rfl rfl ⟨rfl, rfl, rfl, rfl, trivial⟩ ?_
    exact hK18 (x3 + (6 : Int32)) q118.2 _ _ h
  · replace h := (if_neg hc).symm.trans h
    refine am_Y.run (k := 1) (pc' := 377) (lv' := [(0, .ref 0), (1, .ref 5), (2, .ref 129), (3, .int x3)]) (st' := [.int (0 : Int32)]) (h' := hp q118.2) rfl ?_
    obtain ⟨rfl, rfl⟩ := Prod.mk.inj (Option.some.inj h)
    exact am_Y.ret rfl
set_option maxRecDepth 100000 in
theorem t_law_378 {S : Nat × (Nat → Int32)} (N : Nat) (K18 : Int32 → Mem → Option (Int32 × Mem)) (hK18 : ∀ (x3 : Int32) (M : Mem) (r : Int32) (M' : Mem), K18 x3 M = some (r, M') → am_Y S 68 0 0 am_ML 18 [(0, .ref 0), (1, .ref 5), (2, .ref 129), (3, .int x3)] [] (hp M) (some (.int r)) (hp M')) (x3 : Int32) (M : Mem) (r : Int32) (M' : Mem) (h : f_law_378 S N K18 x3 M = some (r, M')) : am_Y S 68 0 0 am_ML 378 [(0, .ref 0), (1, .ref 5), (2, .ref 129), (3, .int x3)] [] (hp M) (some (.int r)) (hp M') := by
  rw [f_law_378] at h
  refine am_Y.run (k := 5) (pc' := 383) (lv' := [(0, .ref 0), (1, .ref 5), (2, .ref 129), (3, .int x3)]) (st' := [.int (x3 + (1 : Int32)), .ref 0, .ref 5]) (h' := hp M) rfl ?_
  obtain ⟨g, h⟩ := am_itg h
  refine am_Y.sald rfl g ?_
  refine am_Y.call0 (M' := am_M10) (as := [.ref 5, .int (S.2 ((x3 + (1 : Int32))).toNatClampNeg)]) (rest := []) (d' := 1) rfl (by omega) rfl rfl (t_w_fault (S.2 ((x3 + (1 : Int32))).toNatClampNeg) M _ rfl) ?_
  refine am_Y.run (k := 5) (pc' := 392) (lv' := [(0, .ref 0), (1, .ref 5), (2, .ref 129), (3, .int x3)]) (st' := [.int (x3 + (1 : Int32)), .ref 0, .ref 129, .int (f_w_fault (S.2 ((x3 + (1 : Int32))).toNatClampNeg) M)]) (h' := hp M) rfl ?_
  obtain ⟨g, h⟩ := am_itg h
  refine am_Y.sald rfl g ?_
  refine am_Y.call0 (M' := am_M11) (as := [.ref 129, .int (S.2 ((x3 + (1 : Int32))).toNatClampNeg)]) (rest := [.int (f_w_fault (S.2 ((x3 + (1 : Int32))).toNatClampNeg) M)]) (d' := 0) rfl (by omega) rfl rfl (t_m_fault (S.2 ((x3 + (1 : Int32))).toNatClampNeg) M _ rfl) ?_
  refine am_Y.br (c := (f_w_fault (S.2 ((x3 + (1 : Int32))).toNatClampNeg) M) = (f_m_fault (S.2 ((x3 + (1 : Int32))).toNatClampNeg) M)) _ (t := 1792) (u := 399) (lv' := [(0, .ref 0), (1, .ref 5), (2, .ref 129), (3, .int x3)]) (st' := []) (h' := hp M) rfl (fun hc => ?_) (fun hc => ?_)
  · replace h := (if_pos hc).symm.trans h
    refine am_Y.run (k := 2) (pc' := 18) (lv' := [(3, .int (x3 + (6 : Int32))), (0, .ref 0), (1, .ref 5), (2, .ref 129)]) (st' := []) (h' := hp M) rfl ?_
    refine am_Y.weak (lv2 := [(0, .ref 0), (1, .ref 5), (2, .ref 129), (3, .int (x3 + (6 : Int32)))]) rfl rfl ⟨rfl, rfl, rfl, rfl, trivial⟩ ?_
    exact hK18 (x3 + (6 : Int32)) M _ _ h
  · replace h := (if_neg hc).symm.trans h
    refine am_Y.run (k := 1) (pc' := 400) (lv' := [(0, .ref 0), (1, .ref 5), (2, .ref 129), (3, .int x3)]) (st' := [.int (0 : Int32)]) (h' := hp M) rfl ?_
    obtain ⟨rfl, rfl⟩ := Prod.mk.inj (Option.some.inj h)
    exact am_Y.ret rfl
set_option maxRecDepth 100000 in
theorem t_law_401 {S : Nat × (Nat → Int32)} (N : Nat) (K18 : Int32 → Mem → Option (Int32 × Mem)) (hK18 : ∀ (x3 : Int32) (M : Mem) (r : Int32) (M' : Mem), K18 x3 M = some (r, M') → am_Y S 68 0 0 am_ML 18 [(0, .ref 0), (1, .ref 5), (2, .ref 129), (3, .int x3)] [] (hp M) (some (.int r)) (hp M')) (x3 : Int32) (M : Mem) (r : Int32) (M' : Mem) (h : f_law_401 S N K18 x3 M = some (r, M')) : am_Y S 68 0 0 am_ML 401 [(0, .ref 0), (1, .ref 5), (2, .ref 129), (3, .int x3)] [] (hp M) (some (.int r)) (hp M') := by
  rw [f_law_401] at h
  refine am_Y.run (k := 5) (pc' := 406) (lv' := [(0, .ref 0), (1, .ref 5), (2, .ref 129), (3, .int x3)]) (st' := [.int (x3 + (1 : Int32)), .ref 0, .ref 5]) (h' := hp M) rfl ?_
  obtain ⟨g, h⟩ := am_itg h
  refine am_Y.sald rfl g ?_
  obtain ⟨q115, e_q115, h⟩ := Option.bind_eq_some_iff.mp h
  refine am_Y.call0 (M' := am_M12) (as := [.ref 5, .int (S.2 ((x3 + (1 : Int32))).toNatClampNeg)]) (rest := []) (d' := 1) rfl (by omega) rfl rfl (t_w_by (S.2 ((x3 + (1 : Int32))).toNatClampNeg) M q115.1 q115.2 e_q115) ?_
  refine am_Y.run (k := 5) (pc' := 415) (lv' := [(0, .ref 0), (1, .ref 5), (2, .ref 129), (3, .int x3)]) (st' := [.int (x3 + (1 : Int32)), .ref 0, .ref 129, .int q115.1]) (h' := hp q115.2) rfl ?_
  obtain ⟨g, h⟩ := am_itg h
  refine am_Y.sald rfl g ?_
  obtain ⟨q116, e_q116, h⟩ := Option.bind_eq_some_iff.mp h
  refine am_Y.call0 (M' := am_M13) (as := [.ref 129, .int (S.2 ((x3 + (1 : Int32))).toNatClampNeg)]) (rest := [.int q115.1]) (d' := 1) rfl (by omega) rfl rfl (t_m_by (S.2 ((x3 + (1 : Int32))).toNatClampNeg) q115.2 q116.1 q116.2 e_q116) ?_
  refine am_Y.br (c := q115.1 = q116.1) _ (t := 1792) (u := 422) (lv' := [(0, .ref 0), (1, .ref 5), (2, .ref 129), (3, .int x3)]) (st' := []) (h' := hp q116.2) rfl (fun hc => ?_) (fun hc => ?_)
  · replace h := (if_pos hc).symm.trans h
    refine am_Y.run (k := 2) (pc' := 18) (lv' := [(3, .int (x3 + (6 : Int32))), (0, .ref 0), (1, .ref 5), (2, .ref 129)]) (st' := []) (h' := hp q116.2) rfl ?_
    refine am_Y.weak (lv2 := [(0, .ref 0), (1, .ref 5), (2, .ref 129), (3, .int (x3 + (6 : Int32)))]) rfl rfl ⟨rfl, rfl, rfl, rfl, trivial⟩ ?_
    exact hK18 (x3 + (6 : Int32)) q116.2 _ _ h
  · replace h := (if_neg hc).symm.trans h
    refine am_Y.run (k := 1) (pc' := 423) (lv' := [(0, .ref 0), (1, .ref 5), (2, .ref 129), (3, .int x3)]) (st' := [.int (0 : Int32)]) (h' := hp q116.2) rfl ?_
    obtain ⟨rfl, rfl⟩ := Prod.mk.inj (Option.some.inj h)
    exact am_Y.ret rfl
set_option maxRecDepth 100000 in
theorem t_law_424 {S : Nat × (Nat → Int32)} (N : Nat) (K18 : Int32 → Mem → Option (Int32 × Mem)) (hK18 : ∀ (x3 : Int32) (M : Mem) (r : Int32) (M' : Mem), K18 x3 M = some (r, M') → am_Y S 68 0 0 am_ML 18 [(0, .ref 0), (1, .ref 5), (2, .ref 129), (3, .int x3)] [] (hp M) (some (.int r)) (hp M')) (x3 : Int32) (M : Mem) (r : Int32) (M' : Mem) (h : f_law_424 S N K18 x3 M = some (r, M')) : am_Y S 68 0 0 am_ML 424 [(0, .ref 0), (1, .ref 5), (2, .ref 129), (3, .int x3)] [] (hp M) (some (.int r)) (hp M') := by
  rw [f_law_424] at h
  refine am_Y.run (k := 5) (pc' := 429) (lv' := [(0, .ref 0), (1, .ref 5), (2, .ref 129), (3, .int x3)]) (st' := [.int (x3 + (1 : Int32)), .ref 0, .ref 5]) (h' := hp M) rfl ?_
  obtain ⟨g, h⟩ := am_itg h
  refine am_Y.sald rfl g ?_
  refine am_Y.run (k := 4) (pc' := 434) (lv' := [(0, .ref 0), (1, .ref 5), (2, .ref 129), (3, .int x3)]) (st' := [.int (x3 + (2 : Int32)), .ref 0, .int (S.2 ((x3 + (1 : Int32))).toNatClampNeg), .ref 5]) (h' := hp M) rfl ?_
  obtain ⟨g, h⟩ := am_itg h
  refine am_Y.sald rfl g ?_
  obtain ⟨q113, e_q113, h⟩ := Option.bind_eq_some_iff.mp h
  refine am_Y.call0 (M' := am_M14) (as := [.ref 5, .int (S.2 ((x3 + (1 : Int32))).toNatClampNeg), .int (S.2 ((x3 + (2 : Int32))).toNatClampNeg)]) (rest := []) (d' := 6) rfl (by omega) rfl rfl (t_w_say N (S.2 ((x3 + (1 : Int32))).toNatClampNeg) (S.2 ((x3 + (2 : Int32))).toNatClampNeg) M q113.1 q113.2 e_q113) ?_
  refine am_Y.run (k := 5) (pc' := 443) (lv' := [(0, .ref 0), (1, .ref 5), (2, .ref 129), (3, .int x3)]) (st' := [.int (x3 + (1 : Int32)), .ref 0, .ref 129, .int q113.1]) (h' := hp q113.2) rfl ?_
  obtain ⟨g, h⟩ := am_itg h
  refine am_Y.sald rfl g ?_
  refine am_Y.run (k := 4) (pc' := 448) (lv' := [(0, .ref 0), (1, .ref 5), (2, .ref 129), (3, .int x3)]) (st' := [.int (x3 + (2 : Int32)), .ref 0, .int (S.2 ((x3 + (1 : Int32))).toNatClampNeg), .ref 129, .int q113.1]) (h' := hp q113.2) rfl ?_
  obtain ⟨g, h⟩ := am_itg h
  refine am_Y.sald rfl g ?_
  obtain ⟨q114, e_q114, h⟩ := Option.bind_eq_some_iff.mp h
  refine am_Y.call0 (M' := am_M15) (as := [.ref 129, .int (S.2 ((x3 + (1 : Int32))).toNatClampNeg), .int (S.2 ((x3 + (2 : Int32))).toNatClampNeg)]) (rest := [.int q113.1]) (d' := 6) rfl (by omega) rfl rfl (t_m_say N (S.2 ((x3 + (1 : Int32))).toNatClampNeg) (S.2 ((x3 + (2 : Int32))).toNatClampNeg) q113.2 q114.1 q114.2 e_q114) ?_
  refine am_Y.br (c := q113.1 = q114.1) _ (t := 1792) (u := 455) (lv' := [(0, .ref 0), (1, .ref 5), (2, .ref 129), (3, .int x3)]) (st' := []) (h' := hp q114.2) rfl (fun hc => ?_) (fun hc => ?_)
  · replace h := (if_pos hc).symm.trans h
    refine am_Y.run (k := 2) (pc' := 18) (lv' := [(3, .int (x3 + (6 : Int32))), (0, .ref 0), (1, .ref 5), (2, .ref 129)]) (st' := []) (h' := hp q114.2) rfl ?_
    refine am_Y.weak (lv2 := [(0, .ref 0), (1, .ref 5), (2, .ref 129), (3, .int (x3 + (6 : Int32)))]) rfl rfl ⟨rfl, rfl, rfl, rfl, trivial⟩ ?_
    exact hK18 (x3 + (6 : Int32)) q114.2 _ _ h
  · replace h := (if_neg hc).symm.trans h
    refine am_Y.run (k := 1) (pc' := 456) (lv' := [(0, .ref 0), (1, .ref 5), (2, .ref 129), (3, .int x3)]) (st' := [.int (0 : Int32)]) (h' := hp q114.2) rfl ?_
    obtain ⟨rfl, rfl⟩ := Prod.mk.inj (Option.some.inj h)
    exact am_Y.ret rfl
set_option maxRecDepth 100000 in
theorem t_law_457 {S : Nat × (Nat → Int32)} (N : Nat) (K18 : Int32 → Mem → Option (Int32 × Mem)) (hK18 : ∀ (x3 : Int32) (M : Mem) (r : Int32) (M' : Mem), K18 x3 M = some (r, M') → am_Y S 68 0 0 am_ML 18 [(0, .ref 0), (1, .ref 5), (2, .ref 129), (3, .int x3)] [] (hp M) (some (.int r)) (hp M')) (x3 : Int32) (M : Mem) (r : Int32) (M' : Mem) (h : f_law_457 S N K18 x3 M = some (r, M')) : am_Y S 68 0 0 am_ML 457 [(0, .ref 0), (1, .ref 5), (2, .ref 129), (3, .int x3)] [] (hp M) (some (.int r)) (hp M') := by
  rw [f_law_457] at h
  refine am_Y.run (k := 1) (pc' := 458) (lv' := [(0, .ref 0), (1, .ref 5), (2, .ref 129), (3, .int x3)]) (st' := [.ref 5]) (h' := hp M) rfl ?_
  obtain ⟨q111, e_q111, h⟩ := Option.bind_eq_some_iff.mp h
  refine am_Y.call0 (M' := am_M16) (as := [.ref 5]) (rest := []) (d' := 3) rfl (by omega) rfl rfl (t_w_ask M q111.1 q111.2 e_q111) ?_
  refine am_Y.run (k := 1) (pc' := 462) (lv' := [(0, .ref 0), (1, .ref 5), (2, .ref 129), (3, .int x3)]) (st' := [.ref 129, .int q111.1]) (h' := hp q111.2) rfl ?_
  obtain ⟨q112, e_q112, h⟩ := Option.bind_eq_some_iff.mp h
  refine am_Y.call0 (M' := am_M17) (as := [.ref 129]) (rest := [.int q111.1]) (d' := 2) rfl (by omega) rfl rfl (t_m_ask N q111.2 q112.1 q112.2 e_q112) ?_
  refine am_Y.br (c := q111.1 = q112.1) _ (t := 1792) (u := 468) (lv' := [(0, .ref 0), (1, .ref 5), (2, .ref 129), (3, .int x3)]) (st' := []) (h' := hp q112.2) rfl (fun hc => ?_) (fun hc => ?_)
  · replace h := (if_pos hc).symm.trans h
    refine am_Y.run (k := 2) (pc' := 18) (lv' := [(3, .int (x3 + (6 : Int32))), (0, .ref 0), (1, .ref 5), (2, .ref 129)]) (st' := []) (h' := hp q112.2) rfl ?_
    refine am_Y.weak (lv2 := [(0, .ref 0), (1, .ref 5), (2, .ref 129), (3, .int (x3 + (6 : Int32)))]) rfl rfl ⟨rfl, rfl, rfl, rfl, trivial⟩ ?_
    exact hK18 (x3 + (6 : Int32)) q112.2 _ _ h
  · replace h := (if_neg hc).symm.trans h
    refine am_Y.run (k := 1) (pc' := 469) (lv' := [(0, .ref 0), (1, .ref 5), (2, .ref 129), (3, .int x3)]) (st' := [.int (0 : Int32)]) (h' := hp q112.2) rfl ?_
    obtain ⟨rfl, rfl⟩ := Prod.mk.inj (Option.some.inj h)
    exact am_Y.ret rfl
set_option maxRecDepth 100000 in
theorem t_law_470 {S : Nat × (Nat → Int32)} (N : Nat) (K18 : Int32 → Mem → Option (Int32 × Mem)) (hK18 : ∀ (x3 : Int32) (M : Mem) (r : Int32) (M' : Mem), K18 x3 M = some (r, M') → am_Y S 68 0 0 am_ML 18 [(0, .ref 0), (1, .ref 5), (2, .ref 129), (3, .int x3)] [] (hp M) (some (.int r)) (hp M')) (x3 : Int32) (M : Mem) (r : Int32) (M' : Mem) (h : f_law_470 S N K18 x3 M = some (r, M')) : am_Y S 68 0 0 am_ML 470 [(0, .ref 0), (1, .ref 5), (2, .ref 129), (3, .int x3)] [] (hp M) (some (.int r)) (hp M') := by
  rw [f_law_470] at h
  refine am_Y.run (k := 5) (pc' := 475) (lv' := [(0, .ref 0), (1, .ref 5), (2, .ref 129), (3, .int x3)]) (st' := [.int (x3 + (1 : Int32)), .ref 0, .ref 5]) (h' := hp M) rfl ?_
  obtain ⟨g, h⟩ := am_itg h
  refine am_Y.sald rfl g ?_
  obtain ⟨q109, e_q109, h⟩ := Option.bind_eq_some_iff.mp h
  refine am_Y.call0 (M' := am_M18) (as := [.ref 5, .int (S.2 ((x3 + (1 : Int32))).toNatClampNeg)]) (rest := []) (d' := 4) rfl (by omega) rfl rfl (t_w_pass N (S.2 ((x3 + (1 : Int32))).toNatClampNeg) M q109.1 q109.2 e_q109) ?_
  refine am_Y.run (k := 5) (pc' := 484) (lv' := [(0, .ref 0), (1, .ref 5), (2, .ref 129), (3, .int x3)]) (st' := [.int (x3 + (1 : Int32)), .ref 0, .ref 129, .int q109.1]) (h' := hp q109.2) rfl ?_
  obtain ⟨g, h⟩ := am_itg h
  refine am_Y.sald rfl g ?_
  obtain ⟨q110, e_q110, h⟩ := Option.bind_eq_some_iff.mp h
  refine am_Y.call0 (M' := am_M19) (as := [.ref 129, .int (S.2 ((x3 + (1 : Int32))).toNatClampNeg)]) (rest := [.int q109.1]) (d' := 3) rfl (by omega) rfl rfl (t_m_pass N (S.2 ((x3 + (1 : Int32))).toNatClampNeg) q109.2 q110.1 q110.2 e_q110) ?_
  refine am_Y.br (c := q109.1 = q110.1) _ (t := 1792) (u := 491) (lv' := [(0, .ref 0), (1, .ref 5), (2, .ref 129), (3, .int x3)]) (st' := []) (h' := hp q110.2) rfl (fun hc => ?_) (fun hc => ?_)
  · replace h := (if_pos hc).symm.trans h
    refine am_Y.run (k := 2) (pc' := 18) (lv' := [(3, .int (x3 + (6 : Int32))), (0, .ref 0), (1, .ref 5), (2, .ref 129)]) (st' := []) (h' := hp q110.2) rfl ?_
    refine am_Y.weak (lv2 := [(0, .ref 0), (1, .ref 5), (2, .ref 129), (3, .int (x3 + (6 : Int32)))]) rfl rfl ⟨rfl, rfl, rfl, rfl, trivial⟩ ?_
    exact hK18 (x3 + (6 : Int32)) q110.2 _ _ h
  · replace h := (if_neg hc).symm.trans h
    refine am_Y.run (k := 1) (pc' := 492) (lv' := [(0, .ref 0), (1, .ref 5), (2, .ref 129), (3, .int x3)]) (st' := [.int (0 : Int32)]) (h' := hp q110.2) rfl ?_
    obtain ⟨rfl, rfl⟩ := Prod.mk.inj (Option.some.inj h)
    exact am_Y.ret rfl
set_option maxRecDepth 100000 in
theorem t_law_493 {S : Nat × (Nat → Int32)} (N : Nat) (K18 : Int32 → Mem → Option (Int32 × Mem)) (hK18 : ∀ (x3 : Int32) (M : Mem) (r : Int32) (M' : Mem), K18 x3 M = some (r, M') → am_Y S 68 0 0 am_ML 18 [(0, .ref 0), (1, .ref 5), (2, .ref 129), (3, .int x3)] [] (hp M) (some (.int r)) (hp M')) (x3 : Int32) (M : Mem) (r : Int32) (M' : Mem) (h : f_law_493 S N K18 x3 M = some (r, M')) : am_Y S 68 0 0 am_ML 493 [(0, .ref 0), (1, .ref 5), (2, .ref 129), (3, .int x3)] [] (hp M) (some (.int r)) (hp M') := by
  rw [f_law_493] at h
  refine am_Y.run (k := 5) (pc' := 498) (lv' := [(0, .ref 0), (1, .ref 5), (2, .ref 129), (3, .int x3)]) (st' := [.int (x3 + (1 : Int32)), .ref 0, .ref 5]) (h' := hp M) rfl ?_
  obtain ⟨g, h⟩ := am_itg h
  refine am_Y.sald rfl g ?_
  obtain ⟨q107, e_q107, h⟩ := Option.bind_eq_some_iff.mp h
  refine am_Y.call0 (M' := am_M20) (as := [.ref 5, .int (S.2 ((x3 + (1 : Int32))).toNatClampNeg)]) (rest := []) (d' := 3) rfl (by omega) rfl rfl (t_w_send (S.2 ((x3 + (1 : Int32))).toNatClampNeg) M q107.1 q107.2 e_q107) ?_
  refine am_Y.run (k := 5) (pc' := 507) (lv' := [(0, .ref 0), (1, .ref 5), (2, .ref 129), (3, .int x3)]) (st' := [.int (x3 + (1 : Int32)), .ref 0, .ref 129, .int q107.1]) (h' := hp q107.2) rfl ?_
  obtain ⟨g, h⟩ := am_itg h
  refine am_Y.sald rfl g ?_
  obtain ⟨q108, e_q108, h⟩ := Option.bind_eq_some_iff.mp h
  refine am_Y.call0 (M' := am_M21) (as := [.ref 129, .int (S.2 ((x3 + (1 : Int32))).toNatClampNeg)]) (rest := [.int q107.1]) (d' := 2) rfl (by omega) rfl rfl (t_m_send N (S.2 ((x3 + (1 : Int32))).toNatClampNeg) q107.2 q108.1 q108.2 e_q108) ?_
  refine am_Y.br (c := q107.1 = q108.1) _ (t := 1792) (u := 514) (lv' := [(0, .ref 0), (1, .ref 5), (2, .ref 129), (3, .int x3)]) (st' := []) (h' := hp q108.2) rfl (fun hc => ?_) (fun hc => ?_)
  · replace h := (if_pos hc).symm.trans h
    refine am_Y.run (k := 2) (pc' := 18) (lv' := [(3, .int (x3 + (6 : Int32))), (0, .ref 0), (1, .ref 5), (2, .ref 129)]) (st' := []) (h' := hp q108.2) rfl ?_
    refine am_Y.weak (lv2 := [(0, .ref 0), (1, .ref 5), (2, .ref 129), (3, .int (x3 + (6 : Int32)))]) rfl rfl ⟨rfl, rfl, rfl, rfl, trivial⟩ ?_
    exact hK18 (x3 + (6 : Int32)) q108.2 _ _ h
  · replace h := (if_neg hc).symm.trans h
    refine am_Y.run (k := 1) (pc' := 515) (lv' := [(0, .ref 0), (1, .ref 5), (2, .ref 129), (3, .int x3)]) (st' := [.int (0 : Int32)]) (h' := hp q108.2) rfl ?_
    obtain ⟨rfl, rfl⟩ := Prod.mk.inj (Option.some.inj h)
    exact am_Y.ret rfl
set_option maxRecDepth 100000 in
theorem t_law_516 {S : Nat × (Nat → Int32)} (N : Nat) (K18 : Int32 → Mem → Option (Int32 × Mem)) (hK18 : ∀ (x3 : Int32) (M : Mem) (r : Int32) (M' : Mem), K18 x3 M = some (r, M') → am_Y S 68 0 0 am_ML 18 [(0, .ref 0), (1, .ref 5), (2, .ref 129), (3, .int x3)] [] (hp M) (some (.int r)) (hp M')) (x3 : Int32) (M : Mem) (r : Int32) (M' : Mem) (h : f_law_516 S N K18 x3 M = some (r, M')) : am_Y S 68 0 0 am_ML 516 [(0, .ref 0), (1, .ref 5), (2, .ref 129), (3, .int x3)] [] (hp M) (some (.int r)) (hp M') := by
  rw [f_law_516] at h
  refine am_Y.run (k := 1) (pc' := 517) (lv' := [(0, .ref 0), (1, .ref 5), (2, .ref 129), (3, .int x3)]) (st' := [.ref 5]) (h' := hp M) rfl ?_
  obtain ⟨q105, e_q105, h⟩ := Option.bind_eq_some_iff.mp h
  refine am_Y.call0 (M' := am_M22) (as := [.ref 5]) (rest := []) (d' := 6) rfl (by omega) rfl rfl (t_w_dinner N M q105.1 q105.2 e_q105) ?_
  refine am_Y.run (k := 1) (pc' := 521) (lv' := [(0, .ref 0), (1, .ref 5), (2, .ref 129), (3, .int x3)]) (st' := [.ref 129, .int q105.1]) (h' := hp q105.2) rfl ?_
  obtain ⟨q106, e_q106, h⟩ := Option.bind_eq_some_iff.mp h
  refine am_Y.call0 (M' := am_M23) (as := [.ref 129]) (rest := [.int q105.1]) (d' := 6) rfl (by omega) rfl rfl (t_m_dinner N q105.2 q106.1 q106.2 e_q106) ?_
  refine am_Y.br (c := q105.1 = q106.1) _ (t := 1792) (u := 527) (lv' := [(0, .ref 0), (1, .ref 5), (2, .ref 129), (3, .int x3)]) (st' := []) (h' := hp q106.2) rfl (fun hc => ?_) (fun hc => ?_)
  · replace h := (if_pos hc).symm.trans h
    refine am_Y.run (k := 2) (pc' := 18) (lv' := [(3, .int (x3 + (6 : Int32))), (0, .ref 0), (1, .ref 5), (2, .ref 129)]) (st' := []) (h' := hp q106.2) rfl ?_
    refine am_Y.weak (lv2 := [(0, .ref 0), (1, .ref 5), (2, .ref 129), (3, .int (x3 + (6 : Int32)))]) rfl rfl ⟨rfl, rfl, rfl, rfl, trivial⟩ ?_
    exact hK18 (x3 + (6 : Int32)) q106.2 _ _ h
  · replace h := (if_neg hc).symm.trans h
    refine am_Y.run (k := 1) (pc' := 528) (lv' := [(0, .ref 0), (1, .ref 5), (2, .ref 129), (3, .int x3)]) (st' := [.int (0 : Int32)]) (h' := hp q106.2) rfl ?_
    obtain ⟨rfl, rfl⟩ := Prod.mk.inj (Option.some.inj h)
    exact am_Y.ret rfl
set_option maxRecDepth 100000 in
theorem t_law_529 {S : Nat × (Nat → Int32)} (N : Nat) (K18 : Int32 → Mem → Option (Int32 × Mem)) (hK18 : ∀ (x3 : Int32) (M : Mem) (r : Int32) (M' : Mem), K18 x3 M = some (r, M') → am_Y S 68 0 0 am_ML 18 [(0, .ref 0), (1, .ref 5), (2, .ref 129), (3, .int x3)] [] (hp M) (some (.int r)) (hp M')) (x3 : Int32) (M : Mem) (r : Int32) (M' : Mem) (h : f_law_529 S N K18 x3 M = some (r, M')) : am_Y S 68 0 0 am_ML 529 [(0, .ref 0), (1, .ref 5), (2, .ref 129), (3, .int x3)] [] (hp M) (some (.int r)) (hp M') := by
  rw [f_law_529] at h
  refine am_Y.run (k := 5) (pc' := 534) (lv' := [(0, .ref 0), (1, .ref 5), (2, .ref 129), (3, .int x3)]) (st' := [.int (x3 + (1 : Int32)), .ref 0, .ref 5]) (h' := hp M) rfl ?_
  obtain ⟨g, h⟩ := am_itg h
  refine am_Y.sald rfl g ?_
  obtain ⟨q103, e_q103, h⟩ := Option.bind_eq_some_iff.mp h
  refine am_Y.call0 (M' := am_M24) (as := [.ref 5, .int (S.2 ((x3 + (1 : Int32))).toNatClampNeg)]) (rest := []) (d' := 8) rfl (by omega) rfl rfl (t_w_played N (S.2 ((x3 + (1 : Int32))).toNatClampNeg) M q103.1 q103.2 e_q103) ?_
  refine am_Y.run (k := 5) (pc' := 543) (lv' := [(0, .ref 0), (1, .ref 5), (2, .ref 129), (3, .int x3)]) (st' := [.int (x3 + (1 : Int32)), .ref 0, .ref 129, .int q103.1]) (h' := hp q103.2) rfl ?_
  obtain ⟨g, h⟩ := am_itg h
  refine am_Y.sald rfl g ?_
  obtain ⟨q104, e_q104, h⟩ := Option.bind_eq_some_iff.mp h
  refine am_Y.call0 (M' := am_M25) (as := [.ref 129, .int (S.2 ((x3 + (1 : Int32))).toNatClampNeg)]) (rest := [.int q103.1]) (d' := 8) rfl (by omega) rfl rfl (t_m_played N (S.2 ((x3 + (1 : Int32))).toNatClampNeg) q103.2 q104.1 q104.2 e_q104) ?_
  refine am_Y.br (c := q103.1 = q104.1) _ (t := 1792) (u := 550) (lv' := [(0, .ref 0), (1, .ref 5), (2, .ref 129), (3, .int x3)]) (st' := []) (h' := hp q104.2) rfl (fun hc => ?_) (fun hc => ?_)
  · replace h := (if_pos hc).symm.trans h
    refine am_Y.run (k := 2) (pc' := 18) (lv' := [(3, .int (x3 + (6 : Int32))), (0, .ref 0), (1, .ref 5), (2, .ref 129)]) (st' := []) (h' := hp q104.2) rfl ?_
    refine am_Y.weak (lv2 := [(0, .ref 0), (1, .ref 5), (2, .ref 129), (3, .int (x3 + (6 : Int32)))]) rfl rfl ⟨rfl, rfl, rfl, rfl, trivial⟩ ?_
    exact hK18 (x3 + (6 : Int32)) q104.2 _ _ h
  · replace h := (if_neg hc).symm.trans h
    refine am_Y.run (k := 1) (pc' := 551) (lv' := [(0, .ref 0), (1, .ref 5), (2, .ref 129), (3, .int x3)]) (st' := [.int (0 : Int32)]) (h' := hp q104.2) rfl ?_
    obtain ⟨rfl, rfl⟩ := Prod.mk.inj (Option.some.inj h)
    exact am_Y.ret rfl
set_option maxRecDepth 100000 in
theorem t_law_552 {S : Nat × (Nat → Int32)} (N : Nat) (K18 : Int32 → Mem → Option (Int32 × Mem)) (hK18 : ∀ (x3 : Int32) (M : Mem) (r : Int32) (M' : Mem), K18 x3 M = some (r, M') → am_Y S 68 0 0 am_ML 18 [(0, .ref 0), (1, .ref 5), (2, .ref 129), (3, .int x3)] [] (hp M) (some (.int r)) (hp M')) (x3 : Int32) (M : Mem) (r : Int32) (M' : Mem) (h : f_law_552 S N K18 x3 M = some (r, M')) : am_Y S 68 0 0 am_ML 552 [(0, .ref 0), (1, .ref 5), (2, .ref 129), (3, .int x3)] [] (hp M) (some (.int r)) (hp M') := by
  rw [f_law_552] at h
  refine am_Y.run (k := 5) (pc' := 557) (lv' := [(0, .ref 0), (1, .ref 5), (2, .ref 129), (3, .int x3)]) (st' := [.int (x3 + (1 : Int32)), .ref 0, .ref 5]) (h' := hp M) rfl ?_
  obtain ⟨g, h⟩ := am_itg h
  refine am_Y.sald rfl g ?_
  refine am_Y.run (k := 4) (pc' := 562) (lv' := [(0, .ref 0), (1, .ref 5), (2, .ref 129), (3, .int x3)]) (st' := [.int (x3 + (2 : Int32)), .ref 0, .int (S.2 ((x3 + (1 : Int32))).toNatClampNeg), .ref 5]) (h' := hp M) rfl ?_
  obtain ⟨g, h⟩ := am_itg h
  refine am_Y.sald rfl g ?_
  obtain ⟨q101, e_q101, h⟩ := Option.bind_eq_some_iff.mp h
  refine am_Y.call0 (M' := am_M26) (as := [.ref 5, .int (S.2 ((x3 + (1 : Int32))).toNatClampNeg), .int (S.2 ((x3 + (2 : Int32))).toNatClampNeg)]) (rest := []) (d' := 7) rfl (by omega) rfl rfl (t_w_years N (S.2 ((x3 + (1 : Int32))).toNatClampNeg) (S.2 ((x3 + (2 : Int32))).toNatClampNeg) M q101.1 q101.2 e_q101) ?_
  refine am_Y.run (k := 5) (pc' := 571) (lv' := [(0, .ref 0), (1, .ref 5), (2, .ref 129), (3, .int x3)]) (st' := [.int (x3 + (1 : Int32)), .ref 0, .ref 129, .int q101.1]) (h' := hp q101.2) rfl ?_
  obtain ⟨g, h⟩ := am_itg h
  refine am_Y.sald rfl g ?_
  refine am_Y.run (k := 4) (pc' := 576) (lv' := [(0, .ref 0), (1, .ref 5), (2, .ref 129), (3, .int x3)]) (st' := [.int (x3 + (2 : Int32)), .ref 0, .int (S.2 ((x3 + (1 : Int32))).toNatClampNeg), .ref 129, .int q101.1]) (h' := hp q101.2) rfl ?_
  obtain ⟨g, h⟩ := am_itg h
  refine am_Y.sald rfl g ?_
  obtain ⟨q102, e_q102, h⟩ := Option.bind_eq_some_iff.mp h
  refine am_Y.call0 (M' := am_M27) (as := [.ref 129, .int (S.2 ((x3 + (1 : Int32))).toNatClampNeg), .int (S.2 ((x3 + (2 : Int32))).toNatClampNeg)]) (rest := [.int q101.1]) (d' := 7) rfl (by omega) rfl rfl (t_m_years N (S.2 ((x3 + (1 : Int32))).toNatClampNeg) (S.2 ((x3 + (2 : Int32))).toNatClampNeg) q101.2 q102.1 q102.2 e_q102) ?_
  refine am_Y.br (c := q101.1 = q102.1) _ (t := 1792) (u := 583) (lv' := [(0, .ref 0), (1, .ref 5), (2, .ref 129), (3, .int x3)]) (st' := []) (h' := hp q102.2) rfl (fun hc => ?_) (fun hc => ?_)
  · replace h := (if_pos hc).symm.trans h
    refine am_Y.run (k := 2) (pc' := 18) (lv' := [(3, .int (x3 + (6 : Int32))), (0, .ref 0), (1, .ref 5), (2, .ref 129)]) (st' := []) (h' := hp q102.2) rfl ?_
    refine am_Y.weak (lv2 := [(0, .ref 0), (1, .ref 5), (2, .ref 129), (3, .int (x3 + (6 : Int32)))]) rfl rfl ⟨rfl, rfl, rfl, rfl, trivial⟩ ?_
    exact hK18 (x3 + (6 : Int32)) q102.2 _ _ h
  · replace h := (if_neg hc).symm.trans h
    refine am_Y.run (k := 1) (pc' := 584) (lv' := [(0, .ref 0), (1, .ref 5), (2, .ref 129), (3, .int x3)]) (st' := [.int (0 : Int32)]) (h' := hp q102.2) rfl ?_
    obtain ⟨rfl, rfl⟩ := Prod.mk.inj (Option.some.inj h)
    exact am_Y.ret rfl
set_option maxRecDepth 100000 in
theorem t_law_585 {S : Nat × (Nat → Int32)} (N : Nat) (K18 : Int32 → Mem → Option (Int32 × Mem)) (hK18 : ∀ (x3 : Int32) (M : Mem) (r : Int32) (M' : Mem), K18 x3 M = some (r, M') → am_Y S 68 0 0 am_ML 18 [(0, .ref 0), (1, .ref 5), (2, .ref 129), (3, .int x3)] [] (hp M) (some (.int r)) (hp M')) (x3 : Int32) (M : Mem) (r : Int32) (M' : Mem) (h : f_law_585 S N K18 x3 M = some (r, M')) : am_Y S 68 0 0 am_ML 585 [(0, .ref 0), (1, .ref 5), (2, .ref 129), (3, .int x3)] [] (hp M) (some (.int r)) (hp M') := by
  rw [f_law_585] at h
  refine am_Y.run (k := 1) (pc' := 586) (lv' := [(0, .ref 0), (1, .ref 5), (2, .ref 129), (3, .int x3)]) (st' := [.ref 5]) (h' := hp M) rfl ?_
  obtain ⟨q99, e_q99, h⟩ := Option.bind_eq_some_iff.mp h
  refine am_Y.call0 (M' := am_M28) (as := [.ref 5]) (rest := []) (d' := 3) rfl (by omega) rfl rfl (t_w_undo M q99.1 q99.2 e_q99) ?_
  refine am_Y.run (k := 1) (pc' := 590) (lv' := [(0, .ref 0), (1, .ref 5), (2, .ref 129), (3, .int x3)]) (st' := [.ref 129, .int q99.1]) (h' := hp q99.2) rfl ?_
  obtain ⟨q100, e_q100, h⟩ := Option.bind_eq_some_iff.mp h
  refine am_Y.call0 (M' := am_M29) (as := [.ref 129]) (rest := [.int q99.1]) (d' := 2) rfl (by omega) rfl rfl (t_m_undo N q99.2 q100.1 q100.2 e_q100) ?_
  refine am_Y.br (c := q99.1 = q100.1) _ (t := 1792) (u := 596) (lv' := [(0, .ref 0), (1, .ref 5), (2, .ref 129), (3, .int x3)]) (st' := []) (h' := hp q100.2) rfl (fun hc => ?_) (fun hc => ?_)
  · replace h := (if_pos hc).symm.trans h
    refine am_Y.run (k := 2) (pc' := 18) (lv' := [(3, .int (x3 + (6 : Int32))), (0, .ref 0), (1, .ref 5), (2, .ref 129)]) (st' := []) (h' := hp q100.2) rfl ?_
    refine am_Y.weak (lv2 := [(0, .ref 0), (1, .ref 5), (2, .ref 129), (3, .int (x3 + (6 : Int32)))]) rfl rfl ⟨rfl, rfl, rfl, rfl, trivial⟩ ?_
    exact hK18 (x3 + (6 : Int32)) q100.2 _ _ h
  · replace h := (if_neg hc).symm.trans h
    refine am_Y.run (k := 1) (pc' := 597) (lv' := [(0, .ref 0), (1, .ref 5), (2, .ref 129), (3, .int x3)]) (st' := [.int (0 : Int32)]) (h' := hp q100.2) rfl ?_
    obtain ⟨rfl, rfl⟩ := Prod.mk.inj (Option.some.inj h)
    exact am_Y.ret rfl
set_option maxRecDepth 100000 in
theorem t_law_598 {S : Nat × (Nat → Int32)} (N : Nat) (K18 : Int32 → Mem → Option (Int32 × Mem)) (hK18 : ∀ (x3 : Int32) (M : Mem) (r : Int32) (M' : Mem), K18 x3 M = some (r, M') → am_Y S 68 0 0 am_ML 18 [(0, .ref 0), (1, .ref 5), (2, .ref 129), (3, .int x3)] [] (hp M) (some (.int r)) (hp M')) (x3 : Int32) (M : Mem) (r : Int32) (M' : Mem) (h : f_law_598 S N K18 x3 M = some (r, M')) : am_Y S 68 0 0 am_ML 598 [(0, .ref 0), (1, .ref 5), (2, .ref 129), (3, .int x3)] [] (hp M) (some (.int r)) (hp M') := by
  rw [f_law_598] at h
  refine am_Y.run (k := 5) (pc' := 603) (lv' := [(0, .ref 0), (1, .ref 5), (2, .ref 129), (3, .int x3)]) (st' := [.int (x3 + (1 : Int32)), .ref 0, .ref 5]) (h' := hp M) rfl ?_
  obtain ⟨g, h⟩ := am_itg h
  refine am_Y.sald rfl g ?_
  refine am_Y.run (k := 4) (pc' := 608) (lv' := [(0, .ref 0), (1, .ref 5), (2, .ref 129), (3, .int x3)]) (st' := [.int (x3 + (2 : Int32)), .ref 0, .int (S.2 ((x3 + (1 : Int32))).toNatClampNeg), .ref 5]) (h' := hp M) rfl ?_
  obtain ⟨g, h⟩ := am_itg h
  refine am_Y.sald rfl g ?_
  obtain ⟨q97, e_q97, h⟩ := Option.bind_eq_some_iff.mp h
  refine am_Y.call0 (M' := am_M30) (as := [.ref 5, .int (S.2 ((x3 + (1 : Int32))).toNatClampNeg), .int (S.2 ((x3 + (2 : Int32))).toNatClampNeg)]) (rest := []) (d' := 5) rfl (by omega) rfl rfl (t_w_of N (S.2 ((x3 + (1 : Int32))).toNatClampNeg) (S.2 ((x3 + (2 : Int32))).toNatClampNeg) M q97.1 q97.2 e_q97) ?_
  refine am_Y.run (k := 5) (pc' := 617) (lv' := [(0, .ref 0), (1, .ref 5), (2, .ref 129), (3, .int x3)]) (st' := [.int (x3 + (1 : Int32)), .ref 0, .ref 129, .int q97.1]) (h' := hp q97.2) rfl ?_
  obtain ⟨g, h⟩ := am_itg h
  refine am_Y.sald rfl g ?_
  refine am_Y.run (k := 4) (pc' := 622) (lv' := [(0, .ref 0), (1, .ref 5), (2, .ref 129), (3, .int x3)]) (st' := [.int (x3 + (2 : Int32)), .ref 0, .int (S.2 ((x3 + (1 : Int32))).toNatClampNeg), .ref 129, .int q97.1]) (h' := hp q97.2) rfl ?_
  obtain ⟨g, h⟩ := am_itg h
  refine am_Y.sald rfl g ?_
  obtain ⟨q98, e_q98, h⟩ := Option.bind_eq_some_iff.mp h
  refine am_Y.call0 (M' := am_M31) (as := [.ref 129, .int (S.2 ((x3 + (1 : Int32))).toNatClampNeg), .int (S.2 ((x3 + (2 : Int32))).toNatClampNeg)]) (rest := [.int q97.1]) (d' := 5) rfl (by omega) rfl rfl (t_m_of N (S.2 ((x3 + (1 : Int32))).toNatClampNeg) (S.2 ((x3 + (2 : Int32))).toNatClampNeg) q97.2 q98.1 q98.2 e_q98) ?_
  refine am_Y.br (c := q97.1 = q98.1) _ (t := 1792) (u := 629) (lv' := [(0, .ref 0), (1, .ref 5), (2, .ref 129), (3, .int x3)]) (st' := []) (h' := hp q98.2) rfl (fun hc => ?_) (fun hc => ?_)
  · replace h := (if_pos hc).symm.trans h
    refine am_Y.run (k := 2) (pc' := 18) (lv' := [(3, .int (x3 + (6 : Int32))), (0, .ref 0), (1, .ref 5), (2, .ref 129)]) (st' := []) (h' := hp q98.2) rfl ?_
    refine am_Y.weak (lv2 := [(0, .ref 0), (1, .ref 5), (2, .ref 129), (3, .int (x3 + (6 : Int32)))]) rfl rfl ⟨rfl, rfl, rfl, rfl, trivial⟩ ?_
    exact hK18 (x3 + (6 : Int32)) q98.2 _ _ h
  · replace h := (if_neg hc).symm.trans h
    refine am_Y.run (k := 1) (pc' := 630) (lv' := [(0, .ref 0), (1, .ref 5), (2, .ref 129), (3, .int x3)]) (st' := [.int (0 : Int32)]) (h' := hp q98.2) rfl ?_
    obtain ⟨rfl, rfl⟩ := Prod.mk.inj (Option.some.inj h)
    exact am_Y.ret rfl
set_option maxRecDepth 100000 in
theorem t_law_631 {S : Nat × (Nat → Int32)} (N : Nat) (K18 : Int32 → Mem → Option (Int32 × Mem)) (hK18 : ∀ (x3 : Int32) (M : Mem) (r : Int32) (M' : Mem), K18 x3 M = some (r, M') → am_Y S 68 0 0 am_ML 18 [(0, .ref 0), (1, .ref 5), (2, .ref 129), (3, .int x3)] [] (hp M) (some (.int r)) (hp M')) (x3 : Int32) (M : Mem) (r : Int32) (M' : Mem) (h : f_law_631 S N K18 x3 M = some (r, M')) : am_Y S 68 0 0 am_ML 631 [(0, .ref 0), (1, .ref 5), (2, .ref 129), (3, .int x3)] [] (hp M) (some (.int r)) (hp M') := by
  rw [f_law_631] at h
  refine am_Y.run (k := 5) (pc' := 636) (lv' := [(0, .ref 0), (1, .ref 5), (2, .ref 129), (3, .int x3)]) (st' := [.int (x3 + (1 : Int32)), .ref 0, .ref 5]) (h' := hp M) rfl ?_
  obtain ⟨g, h⟩ := am_itg h
  refine am_Y.sald rfl g ?_
  refine am_Y.br (c := (S.2 ((x3 + (1 : Int32))).toNatClampNeg) = (0 : Int32)) _ (t := 644) (u := 640) (lv' := [(0, .ref 0), (1, .ref 5), (2, .ref 129), (3, .int x3)]) (st' := [.ref 5]) (h' := hp M) rfl (fun hc => ?_) (fun hc => ?_)
  · replace h := (if_pos hc).symm.trans h
    refine am_Y.run (k := 1) (pc' := 645) (lv' := [(0, .ref 0), (1, .ref 5), (2, .ref 129), (3, .int x3)]) (st' := [.int (0 : Int32), .ref 5]) (h' := hp M) rfl ?_
    obtain ⟨q91, e_q91, h⟩ := Option.bind_eq_some_iff.mp h
    refine am_Y.call0 (M' := am_M32) (as := [.ref 5, .int (0 : Int32)]) (rest := []) (d' := 3) rfl (by omega) rfl rfl (t_w_holds N (0 : Int32) M q91 e_q91) ?_
    refine am_Y.run (k := 5) (pc' := 653) (lv' := [(0, .ref 0), (1, .ref 5), (2, .ref 129), (3, .int x3)]) (st' := [.int (x3 + (1 : Int32)), .ref 0, .ref 129, .int q91]) (h' := hp M) rfl ?_
    obtain ⟨g, h⟩ := am_itg h
    refine am_Y.sald rfl g ?_
    refine am_Y.br (c := (S.2 ((x3 + (1 : Int32))).toNatClampNeg) = (0 : Int32)) _ (t := 661) (u := 657) (lv' := [(0, .ref 0), (1, .ref 5), (2, .ref 129), (3, .int x3)]) (st' := [.ref 129, .int q91]) (h' := hp M) rfl (fun hc => ?_) (fun hc => ?_)
    · replace h := (if_pos hc).symm.trans h
      refine am_Y.run (k := 1) (pc' := 662) (lv' := [(0, .ref 0), (1, .ref 5), (2, .ref 129), (3, .int x3)]) (st' := [.int (0 : Int32), .ref 129, .int q91]) (h' := hp M) rfl ?_
      obtain ⟨q92, e_q92, h⟩ := Option.bind_eq_some_iff.mp h
      refine am_Y.call0 (M' := am_M33) (as := [.ref 129, .int (0 : Int32)]) (rest := [.int q91]) (d' := 3) rfl (by omega) rfl rfl (t_m_holds N (0 : Int32) M q92.1 q92.2 e_q92) ?_
      refine am_Y.br (c := q91 = q92.1) _ (t := 1792) (u := 668) (lv' := [(0, .ref 0), (1, .ref 5), (2, .ref 129), (3, .int x3)]) (st' := []) (h' := hp q92.2) rfl (fun hc => ?_) (fun hc => ?_)
      · replace h := (if_pos hc).symm.trans h
        refine am_Y.run (k := 2) (pc' := 18) (lv' := [(3, .int (x3 + (6 : Int32))), (0, .ref 0), (1, .ref 5), (2, .ref 129)]) (st' := []) (h' := hp q92.2) rfl ?_
        refine am_Y.weak (lv2 := [(0, .ref 0), (1, .ref 5), (2, .ref 129), (3, .int (x3 + (6 : Int32)))]) rfl rfl ⟨rfl, rfl, rfl, rfl, trivial⟩ ?_
        exact hK18 (x3 + (6 : Int32)) q92.2 _ _ h
      · replace h := (if_neg hc).symm.trans h
        refine am_Y.run (k := 1) (pc' := 669) (lv' := [(0, .ref 0), (1, .ref 5), (2, .ref 129), (3, .int x3)]) (st' := [.int (0 : Int32)]) (h' := hp q92.2) rfl ?_
        obtain ⟨rfl, rfl⟩ := Prod.mk.inj (Option.some.inj h)
        exact am_Y.ret rfl
    · replace h := (if_neg hc).symm.trans h
      refine am_Y.run (k := 2) (pc' := 662) (lv' := [(0, .ref 0), (1, .ref 5), (2, .ref 129), (3, .int x3)]) (st' := [.int (1 : Int32), .ref 129, .int q91]) (h' := hp M) rfl ?_
      obtain ⟨q93, e_q93, h⟩ := Option.bind_eq_some_iff.mp h
      refine am_Y.call0 (M' := am_M33) (as := [.ref 129, .int (1 : Int32)]) (rest := [.int q91]) (d' := 3) rfl (by omega) rfl rfl (t_m_holds N (1 : Int32) M q93.1 q93.2 e_q93) ?_
      refine am_Y.br (c := q91 = q93.1) _ (t := 1792) (u := 668) (lv' := [(0, .ref 0), (1, .ref 5), (2, .ref 129), (3, .int x3)]) (st' := []) (h' := hp q93.2) rfl (fun hc => ?_) (fun hc => ?_)
      · replace h := (if_pos hc).symm.trans h
        refine am_Y.run (k := 2) (pc' := 18) (lv' := [(3, .int (x3 + (6 : Int32))), (0, .ref 0), (1, .ref 5), (2, .ref 129)]) (st' := []) (h' := hp q93.2) rfl ?_
        refine am_Y.weak (lv2 := [(0, .ref 0), (1, .ref 5), (2, .ref 129), (3, .int (x3 + (6 : Int32)))]) rfl rfl ⟨rfl, rfl, rfl, rfl, trivial⟩ ?_
        exact hK18 (x3 + (6 : Int32)) q93.2 _ _ h
      · replace h := (if_neg hc).symm.trans h
        refine am_Y.run (k := 1) (pc' := 669) (lv' := [(0, .ref 0), (1, .ref 5), (2, .ref 129), (3, .int x3)]) (st' := [.int (0 : Int32)]) (h' := hp q93.2) rfl ?_
        obtain ⟨rfl, rfl⟩ := Prod.mk.inj (Option.some.inj h)
        exact am_Y.ret rfl
  · replace h := (if_neg hc).symm.trans h
    refine am_Y.run (k := 2) (pc' := 645) (lv' := [(0, .ref 0), (1, .ref 5), (2, .ref 129), (3, .int x3)]) (st' := [.int (1 : Int32), .ref 5]) (h' := hp M) rfl ?_
    obtain ⟨q94, e_q94, h⟩ := Option.bind_eq_some_iff.mp h
    refine am_Y.call0 (M' := am_M32) (as := [.ref 5, .int (1 : Int32)]) (rest := []) (d' := 3) rfl (by omega) rfl rfl (t_w_holds N (1 : Int32) M q94 e_q94) ?_
    refine am_Y.run (k := 5) (pc' := 653) (lv' := [(0, .ref 0), (1, .ref 5), (2, .ref 129), (3, .int x3)]) (st' := [.int (x3 + (1 : Int32)), .ref 0, .ref 129, .int q94]) (h' := hp M) rfl ?_
    obtain ⟨g, h⟩ := am_itg h
    refine am_Y.sald rfl g ?_
    refine am_Y.br (c := (S.2 ((x3 + (1 : Int32))).toNatClampNeg) = (0 : Int32)) _ (t := 661) (u := 657) (lv' := [(0, .ref 0), (1, .ref 5), (2, .ref 129), (3, .int x3)]) (st' := [.ref 129, .int q94]) (h' := hp M) rfl (fun hc => ?_) (fun hc => ?_)
    · replace h := (if_pos hc).symm.trans h
      refine am_Y.run (k := 1) (pc' := 662) (lv' := [(0, .ref 0), (1, .ref 5), (2, .ref 129), (3, .int x3)]) (st' := [.int (0 : Int32), .ref 129, .int q94]) (h' := hp M) rfl ?_
      obtain ⟨q95, e_q95, h⟩ := Option.bind_eq_some_iff.mp h
      refine am_Y.call0 (M' := am_M33) (as := [.ref 129, .int (0 : Int32)]) (rest := [.int q94]) (d' := 3) rfl (by omega) rfl rfl (t_m_holds N (0 : Int32) M q95.1 q95.2 e_q95) ?_
      refine am_Y.br (c := q94 = q95.1) _ (t := 1792) (u := 668) (lv' := [(0, .ref 0), (1, .ref 5), (2, .ref 129), (3, .int x3)]) (st' := []) (h' := hp q95.2) rfl (fun hc => ?_) (fun hc => ?_)
      · replace h := (if_pos hc).symm.trans h
        refine am_Y.run (k := 2) (pc' := 18) (lv' := [(3, .int (x3 + (6 : Int32))), (0, .ref 0), (1, .ref 5), (2, .ref 129)]) (st' := []) (h' := hp q95.2) rfl ?_
        refine am_Y.weak (lv2 := [(0, .ref 0), (1, .ref 5), (2, .ref 129), (3, .int (x3 + (6 : Int32)))]) rfl rfl ⟨rfl, rfl, rfl, rfl, trivial⟩ ?_
        exact hK18 (x3 + (6 : Int32)) q95.2 _ _ h
      · replace h := (if_neg hc).symm.trans h
        refine am_Y.run (k := 1) (pc' := 669) (lv' := [(0, .ref 0), (1, .ref 5), (2, .ref 129), (3, .int x3)]) (st' := [.int (0 : Int32)]) (h' := hp q95.2) rfl ?_
        obtain ⟨rfl, rfl⟩ := Prod.mk.inj (Option.some.inj h)
        exact am_Y.ret rfl
    · replace h := (if_neg hc).symm.trans h
      refine am_Y.run (k := 2) (pc' := 662) (lv' := [(0, .ref 0), (1, .ref 5), (2, .ref 129), (3, .int x3)]) (st' := [.int (1 : Int32), .ref 129, .int q94]) (h' := hp M) rfl ?_
      obtain ⟨q96, e_q96, h⟩ := Option.bind_eq_some_iff.mp h
      refine am_Y.call0 (M' := am_M33) (as := [.ref 129, .int (1 : Int32)]) (rest := [.int q94]) (d' := 3) rfl (by omega) rfl rfl (t_m_holds N (1 : Int32) M q96.1 q96.2 e_q96) ?_
      refine am_Y.br (c := q94 = q96.1) _ (t := 1792) (u := 668) (lv' := [(0, .ref 0), (1, .ref 5), (2, .ref 129), (3, .int x3)]) (st' := []) (h' := hp q96.2) rfl (fun hc => ?_) (fun hc => ?_)
      · replace h := (if_pos hc).symm.trans h
        refine am_Y.run (k := 2) (pc' := 18) (lv' := [(3, .int (x3 + (6 : Int32))), (0, .ref 0), (1, .ref 5), (2, .ref 129)]) (st' := []) (h' := hp q96.2) rfl ?_
        refine am_Y.weak (lv2 := [(0, .ref 0), (1, .ref 5), (2, .ref 129), (3, .int (x3 + (6 : Int32)))]) rfl rfl ⟨rfl, rfl, rfl, rfl, trivial⟩ ?_
        exact hK18 (x3 + (6 : Int32)) q96.2 _ _ h
      · replace h := (if_neg hc).symm.trans h
        refine am_Y.run (k := 1) (pc' := 669) (lv' := [(0, .ref 0), (1, .ref 5), (2, .ref 129), (3, .int x3)]) (st' := [.int (0 : Int32)]) (h' := hp q96.2) rfl ?_
        obtain ⟨rfl, rfl⟩ := Prod.mk.inj (Option.some.inj h)
        exact am_Y.ret rfl
set_option maxRecDepth 100000 in
theorem t_law_670 {S : Nat × (Nat → Int32)} (N : Nat) (K18 : Int32 → Mem → Option (Int32 × Mem)) (hK18 : ∀ (x3 : Int32) (M : Mem) (r : Int32) (M' : Mem), K18 x3 M = some (r, M') → am_Y S 68 0 0 am_ML 18 [(0, .ref 0), (1, .ref 5), (2, .ref 129), (3, .int x3)] [] (hp M) (some (.int r)) (hp M')) (x3 : Int32) (M : Mem) (r : Int32) (M' : Mem) (h : f_law_670 S N K18 x3 M = some (r, M')) : am_Y S 68 0 0 am_ML 670 [(0, .ref 0), (1, .ref 5), (2, .ref 129), (3, .int x3)] [] (hp M) (some (.int r)) (hp M') := by
  rw [f_law_670] at h
  refine am_Y.run (k := 5) (pc' := 675) (lv' := [(0, .ref 0), (1, .ref 5), (2, .ref 129), (3, .int x3)]) (st' := [.int (x3 + (1 : Int32)), .ref 0, .ref 5]) (h' := hp M) rfl ?_
  obtain ⟨g, h⟩ := am_itg h
  refine am_Y.sald rfl g ?_
  refine am_Y.run (k := 4) (pc' := 680) (lv' := [(0, .ref 0), (1, .ref 5), (2, .ref 129), (3, .int x3)]) (st' := [.int (x3 + (2 : Int32)), .ref 0, .int (S.2 ((x3 + (1 : Int32))).toNatClampNeg), .ref 5]) (h' := hp M) rfl ?_
  obtain ⟨g, h⟩ := am_itg h
  refine am_Y.sald rfl g ?_
  obtain ⟨q89, e_q89, h⟩ := Option.bind_eq_some_iff.mp h
  refine am_Y.call0 (M' := am_M34) (as := [.ref 5, .int (S.2 ((x3 + (1 : Int32))).toNatClampNeg), .int (S.2 ((x3 + (2 : Int32))).toNatClampNeg)]) (rest := []) (d' := 1) rfl (by omega) rfl rfl (t_w_log (S.2 ((x3 + (1 : Int32))).toNatClampNeg) (S.2 ((x3 + (2 : Int32))).toNatClampNeg) M q89 e_q89) ?_
  refine am_Y.run (k := 5) (pc' := 689) (lv' := [(0, .ref 0), (1, .ref 5), (2, .ref 129), (3, .int x3)]) (st' := [.int (x3 + (1 : Int32)), .ref 0, .ref 129, .int q89]) (h' := hp M) rfl ?_
  obtain ⟨g, h⟩ := am_itg h
  refine am_Y.sald rfl g ?_
  refine am_Y.run (k := 4) (pc' := 694) (lv' := [(0, .ref 0), (1, .ref 5), (2, .ref 129), (3, .int x3)]) (st' := [.int (x3 + (2 : Int32)), .ref 0, .int (S.2 ((x3 + (1 : Int32))).toNatClampNeg), .ref 129, .int q89]) (h' := hp M) rfl ?_
  obtain ⟨g, h⟩ := am_itg h
  refine am_Y.sald rfl g ?_
  obtain ⟨q90, e_q90, h⟩ := Option.bind_eq_some_iff.mp h
  refine am_Y.call0 (M' := am_M35) (as := [.ref 129, .int (S.2 ((x3 + (1 : Int32))).toNatClampNeg), .int (S.2 ((x3 + (2 : Int32))).toNatClampNeg)]) (rest := [.int q89]) (d' := 1) rfl (by omega) rfl rfl (t_m_log0 (S.2 ((x3 + (1 : Int32))).toNatClampNeg) (S.2 ((x3 + (2 : Int32))).toNatClampNeg) M q90 e_q90) ?_
  refine am_Y.br (c := q89 = q90) _ (t := 1792) (u := 701) (lv' := [(0, .ref 0), (1, .ref 5), (2, .ref 129), (3, .int x3)]) (st' := []) (h' := hp M) rfl (fun hc => ?_) (fun hc => ?_)
  · replace h := (if_pos hc).symm.trans h
    refine am_Y.run (k := 2) (pc' := 18) (lv' := [(3, .int (x3 + (6 : Int32))), (0, .ref 0), (1, .ref 5), (2, .ref 129)]) (st' := []) (h' := hp M) rfl ?_
    refine am_Y.weak (lv2 := [(0, .ref 0), (1, .ref 5), (2, .ref 129), (3, .int (x3 + (6 : Int32)))]) rfl rfl ⟨rfl, rfl, rfl, rfl, trivial⟩ ?_
    exact hK18 (x3 + (6 : Int32)) M _ _ h
  · replace h := (if_neg hc).symm.trans h
    refine am_Y.run (k := 1) (pc' := 702) (lv' := [(0, .ref 0), (1, .ref 5), (2, .ref 129), (3, .int x3)]) (st' := [.int (0 : Int32)]) (h' := hp M) rfl ?_
    obtain ⟨rfl, rfl⟩ := Prod.mk.inj (Option.some.inj h)
    exact am_Y.ret rfl
