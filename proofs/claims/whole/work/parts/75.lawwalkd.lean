/-! AM does the law as the function says. -/
set_option maxRecDepth 100000 in
theorem t_law_1522 {S : Nat × (Nat → Int32)} (N : Nat) (K18 : Int32 → Mem → Option (Int32 × Mem)) (hK18 : ∀ (x3 : Int32) (M : Mem) (r : Int32) (M' : Mem), K18 x3 M = some (r, M') → am_Y S 68 0 0 am_ML 18 [(0, .ref 0), (1, .ref 5), (2, .ref 129), (3, .int x3)] [] (hp M) (some (.int r)) (hp M')) (x3 : Int32) (M : Mem) (r : Int32) (M' : Mem) (h : f_law_1522 S N K18 x3 M = some (r, M')) : am_Y S 68 0 0 am_ML 1522 [(0, .ref 0), (1, .ref 5), (2, .ref 129), (3, .int x3)] [] (hp M) (some (.int r)) (hp M') := by
  rw [f_law_1522] at h
  refine am_Y.run (k := 5) (pc' := 1527) (lv' := [(0, .ref 0), (1, .ref 5), (2, .ref 129), (3, .int x3)]) (st' := [.int (x3 + (1 : Int32)), .ref 0, .ref 5]) (h' := hp M) rfl ?_
  obtain ⟨g, h⟩ := am_itg h
  refine am_Y.sald rfl g ?_
  refine am_Y.run (k := 4) (pc' := 1532) (lv' := [(0, .ref 0), (1, .ref 5), (2, .ref 129), (3, .int x3)]) (st' := [.int (x3 + (2 : Int32)), .ref 0, .int (S.2 ((x3 + (1 : Int32))).toNatClampNeg), .ref 5]) (h' := hp M) rfl ?_
  obtain ⟨g, h⟩ := am_itg h
  refine am_Y.sald rfl g ?_
  refine am_Y.run (k := 4) (pc' := 1537) (lv' := [(0, .ref 0), (1, .ref 5), (2, .ref 129), (3, .int x3)]) (st' := [.int (x3 + (3 : Int32)), .ref 0, .int (S.2 ((x3 + (2 : Int32))).toNatClampNeg), .int (S.2 ((x3 + (1 : Int32))).toNatClampNeg), .ref 5]) (h' := hp M) rfl ?_
  obtain ⟨g, h⟩ := am_itg h
  refine am_Y.sald rfl g ?_
  refine am_Y.run (k := 4) (pc' := 1542) (lv' := [(0, .ref 0), (1, .ref 5), (2, .ref 129), (3, .int x3)]) (st' := [.int (x3 + (4 : Int32)), .ref 0, .int (S.2 ((x3 + (3 : Int32))).toNatClampNeg), .int (S.2 ((x3 + (2 : Int32))).toNatClampNeg), .int (S.2 ((x3 + (1 : Int32))).toNatClampNeg), .ref 5]) (h' := hp M) rfl ?_
  obtain ⟨g, h⟩ := am_itg h
  refine am_Y.sald rfl g ?_
  refine am_Y.run (k := 4) (pc' := 1547) (lv' := [(0, .ref 0), (1, .ref 5), (2, .ref 129), (3, .int x3)]) (st' := [.int (x3 + (5 : Int32)), .ref 0, .int (S.2 ((x3 + (4 : Int32))).toNatClampNeg), .int (S.2 ((x3 + (3 : Int32))).toNatClampNeg), .int (S.2 ((x3 + (2 : Int32))).toNatClampNeg), .int (S.2 ((x3 + (1 : Int32))).toNatClampNeg), .ref 5]) (h' := hp M) rfl ?_
  obtain ⟨g, h⟩ := am_itg h
  refine am_Y.sald rfl g ?_
  obtain ⟨q17, e_q17, h⟩ := Option.bind_eq_some_iff.mp h
  refine am_Y.call0 (M' := am_M82) (as := [.ref 5, .int (S.2 ((x3 + (1 : Int32))).toNatClampNeg), .int (S.2 ((x3 + (2 : Int32))).toNatClampNeg), .int (S.2 ((x3 + (3 : Int32))).toNatClampNeg), .int (S.2 ((x3 + (4 : Int32))).toNatClampNeg), .int (S.2 ((x3 + (5 : Int32))).toNatClampNeg)]) (rest := []) (d' := 4) rfl (by omega) rfl rfl (t_w_words N (S.2 ((x3 + (1 : Int32))).toNatClampNeg) (S.2 ((x3 + (2 : Int32))).toNatClampNeg) (S.2 ((x3 + (3 : Int32))).toNatClampNeg) (S.2 ((x3 + (4 : Int32))).toNatClampNeg) (S.2 ((x3 + (5 : Int32))).toNatClampNeg) M q17.1 q17.2 e_q17) ?_
  refine am_Y.run (k := 5) (pc' := 1556) (lv' := [(0, .ref 0), (1, .ref 5), (2, .ref 129), (3, .int x3)]) (st' := [.int (x3 + (1 : Int32)), .ref 0, .ref 129, .long q17.1]) (h' := hp q17.2) rfl ?_
  obtain ⟨g, h⟩ := am_itg h
  refine am_Y.sald rfl g ?_
  refine am_Y.run (k := 4) (pc' := 1561) (lv' := [(0, .ref 0), (1, .ref 5), (2, .ref 129), (3, .int x3)]) (st' := [.int (x3 + (2 : Int32)), .ref 0, .int (S.2 ((x3 + (1 : Int32))).toNatClampNeg), .ref 129, .long q17.1]) (h' := hp q17.2) rfl ?_
  obtain ⟨g, h⟩ := am_itg h
  refine am_Y.sald rfl g ?_
  refine am_Y.run (k := 4) (pc' := 1566) (lv' := [(0, .ref 0), (1, .ref 5), (2, .ref 129), (3, .int x3)]) (st' := [.int (x3 + (3 : Int32)), .ref 0, .int (S.2 ((x3 + (2 : Int32))).toNatClampNeg), .int (S.2 ((x3 + (1 : Int32))).toNatClampNeg), .ref 129, .long q17.1]) (h' := hp q17.2) rfl ?_
  obtain ⟨g, h⟩ := am_itg h
  refine am_Y.sald rfl g ?_
  refine am_Y.run (k := 4) (pc' := 1571) (lv' := [(0, .ref 0), (1, .ref 5), (2, .ref 129), (3, .int x3)]) (st' := [.int (x3 + (4 : Int32)), .ref 0, .int (S.2 ((x3 + (3 : Int32))).toNatClampNeg), .int (S.2 ((x3 + (2 : Int32))).toNatClampNeg), .int (S.2 ((x3 + (1 : Int32))).toNatClampNeg), .ref 129, .long q17.1]) (h' := hp q17.2) rfl ?_
  obtain ⟨g, h⟩ := am_itg h
  refine am_Y.sald rfl g ?_
  refine am_Y.run (k := 4) (pc' := 1576) (lv' := [(0, .ref 0), (1, .ref 5), (2, .ref 129), (3, .int x3)]) (st' := [.int (x3 + (5 : Int32)), .ref 0, .int (S.2 ((x3 + (4 : Int32))).toNatClampNeg), .int (S.2 ((x3 + (3 : Int32))).toNatClampNeg), .int (S.2 ((x3 + (2 : Int32))).toNatClampNeg), .int (S.2 ((x3 + (1 : Int32))).toNatClampNeg), .ref 129, .long q17.1]) (h' := hp q17.2) rfl ?_
  obtain ⟨g, h⟩ := am_itg h
  refine am_Y.sald rfl g ?_
  obtain ⟨q18, e_q18, h⟩ := Option.bind_eq_some_iff.mp h
  refine am_Y.call0 (M' := am_M83) (as := [.ref 129, .int (S.2 ((x3 + (1 : Int32))).toNatClampNeg), .int (S.2 ((x3 + (2 : Int32))).toNatClampNeg), .int (S.2 ((x3 + (3 : Int32))).toNatClampNeg), .int (S.2 ((x3 + (4 : Int32))).toNatClampNeg), .int (S.2 ((x3 + (5 : Int32))).toNatClampNeg)]) (rest := [.long q17.1]) (d' := 5) rfl (by omega) rfl rfl (t_m_words N (S.2 ((x3 + (1 : Int32))).toNatClampNeg) (S.2 ((x3 + (2 : Int32))).toNatClampNeg) (S.2 ((x3 + (3 : Int32))).toNatClampNeg) (S.2 ((x3 + (4 : Int32))).toNatClampNeg) (S.2 ((x3 + (5 : Int32))).toNatClampNeg) q17.2 q18.1 q18.2 e_q18) ?_
  refine am_Y.run (k := 1) (pc' := 1581) (lv' := [(0, .ref 0), (1, .ref 5), (2, .ref 129), (3, .int x3)]) (st' := [.int (lg_cmp q17.1 q18.1)]) (h' := hp q18.2) rfl ?_
  refine am_Y.br (c := (lg_cmp q17.1 q18.1) = (0 : Int32)) _ (t := 1792) (u := 1584) (lv' := [(0, .ref 0), (1, .ref 5), (2, .ref 129), (3, .int x3)]) (st' := []) (h' := hp q18.2) rfl (fun hc => ?_) (fun hc => ?_)
  · replace h := (if_pos hc).symm.trans h
    refine am_Y.run (k := 2) (pc' := 18) (lv' := [(3, .int (x3 + (6 : Int32))), (0, .ref 0), (1, .ref 5), (2, .ref 129)]) (st' := []) (h' := hp q18.2) rfl ?_
    refine am_Y.weak (lv2 := [(0, .ref 0), (1, .ref 5), (2, .ref 129), (3, .int (x3 + (6 : Int32)))]) rfl rfl ⟨rfl, rfl, rfl, rfl, trivial⟩ ?_
    exact hK18 (x3 + (6 : Int32)) q18.2 _ _ h
  · replace h := (if_neg hc).symm.trans h
    refine am_Y.run (k := 1) (pc' := 1585) (lv' := [(0, .ref 0), (1, .ref 5), (2, .ref 129), (3, .int x3)]) (st' := [.int (0 : Int32)]) (h' := hp q18.2) rfl ?_
    obtain ⟨rfl, rfl⟩ := Prod.mk.inj (Option.some.inj h)
    exact am_Y.ret rfl
set_option maxRecDepth 100000 in
theorem t_law_1586 {S : Nat × (Nat → Int32)} (N : Nat) (K18 : Int32 → Mem → Option (Int32 × Mem)) (hK18 : ∀ (x3 : Int32) (M : Mem) (r : Int32) (M' : Mem), K18 x3 M = some (r, M') → am_Y S 68 0 0 am_ML 18 [(0, .ref 0), (1, .ref 5), (2, .ref 129), (3, .int x3)] [] (hp M) (some (.int r)) (hp M')) (x3 : Int32) (M : Mem) (r : Int32) (M' : Mem) (h : f_law_1586 S N K18 x3 M = some (r, M')) : am_Y S 68 0 0 am_ML 1586 [(0, .ref 0), (1, .ref 5), (2, .ref 129), (3, .int x3)] [] (hp M) (some (.int r)) (hp M') := by
  rw [f_law_1586] at h
  refine am_Y.run (k := 5) (pc' := 1591) (lv' := [(0, .ref 0), (1, .ref 5), (2, .ref 129), (3, .int x3)]) (st' := [.int (x3 + (1 : Int32)), .ref 0, .ref 5]) (h' := hp M) rfl ?_
  obtain ⟨g, h⟩ := am_itg h
  refine am_Y.sald rfl g ?_
  refine am_Y.run (k := 4) (pc' := 1596) (lv' := [(0, .ref 0), (1, .ref 5), (2, .ref 129), (3, .int x3)]) (st' := [.int (x3 + (2 : Int32)), .ref 0, .int (S.2 ((x3 + (1 : Int32))).toNatClampNeg), .ref 5]) (h' := hp M) rfl ?_
  obtain ⟨g, h⟩ := am_itg h
  refine am_Y.sald rfl g ?_
  refine am_Y.run (k := 4) (pc' := 1601) (lv' := [(0, .ref 0), (1, .ref 5), (2, .ref 129), (3, .int x3)]) (st' := [.int (x3 + (3 : Int32)), .ref 0, .int (S.2 ((x3 + (2 : Int32))).toNatClampNeg), .int (S.2 ((x3 + (1 : Int32))).toNatClampNeg), .ref 5]) (h' := hp M) rfl ?_
  obtain ⟨g, h⟩ := am_itg h
  refine am_Y.sald rfl g ?_
  refine am_Y.run (k := 4) (pc' := 1606) (lv' := [(0, .ref 0), (1, .ref 5), (2, .ref 129), (3, .int x3)]) (st' := [.int (x3 + (4 : Int32)), .ref 0, .int (S.2 ((x3 + (3 : Int32))).toNatClampNeg), .int (S.2 ((x3 + (2 : Int32))).toNatClampNeg), .int (S.2 ((x3 + (1 : Int32))).toNatClampNeg), .ref 5]) (h' := hp M) rfl ?_
  obtain ⟨g, h⟩ := am_itg h
  refine am_Y.sald rfl g ?_
  obtain ⟨q15, e_q15, h⟩ := Option.bind_eq_some_iff.mp h
  refine am_Y.call0 (M' := am_M84) (as := [.ref 5, .int (S.2 ((x3 + (1 : Int32))).toNatClampNeg), .int (S.2 ((x3 + (2 : Int32))).toNatClampNeg), .int (S.2 ((x3 + (3 : Int32))).toNatClampNeg), .int (S.2 ((x3 + (4 : Int32))).toNatClampNeg)]) (rest := []) (d' := 4) rfl (by omega) rfl rfl (t_w_fewest N (S.2 ((x3 + (1 : Int32))).toNatClampNeg) (S.2 ((x3 + (2 : Int32))).toNatClampNeg) (S.2 ((x3 + (3 : Int32))).toNatClampNeg) (S.2 ((x3 + (4 : Int32))).toNatClampNeg) M q15.1 q15.2 e_q15) ?_
  refine am_Y.run (k := 5) (pc' := 1615) (lv' := [(0, .ref 0), (1, .ref 5), (2, .ref 129), (3, .int x3)]) (st' := [.int (x3 + (1 : Int32)), .ref 0, .ref 129, .int q15.1]) (h' := hp q15.2) rfl ?_
  obtain ⟨g, h⟩ := am_itg h
  refine am_Y.sald rfl g ?_
  refine am_Y.run (k := 4) (pc' := 1620) (lv' := [(0, .ref 0), (1, .ref 5), (2, .ref 129), (3, .int x3)]) (st' := [.int (x3 + (2 : Int32)), .ref 0, .int (S.2 ((x3 + (1 : Int32))).toNatClampNeg), .ref 129, .int q15.1]) (h' := hp q15.2) rfl ?_
  obtain ⟨g, h⟩ := am_itg h
  refine am_Y.sald rfl g ?_
  refine am_Y.run (k := 4) (pc' := 1625) (lv' := [(0, .ref 0), (1, .ref 5), (2, .ref 129), (3, .int x3)]) (st' := [.int (x3 + (3 : Int32)), .ref 0, .int (S.2 ((x3 + (2 : Int32))).toNatClampNeg), .int (S.2 ((x3 + (1 : Int32))).toNatClampNeg), .ref 129, .int q15.1]) (h' := hp q15.2) rfl ?_
  obtain ⟨g, h⟩ := am_itg h
  refine am_Y.sald rfl g ?_
  refine am_Y.run (k := 4) (pc' := 1630) (lv' := [(0, .ref 0), (1, .ref 5), (2, .ref 129), (3, .int x3)]) (st' := [.int (x3 + (4 : Int32)), .ref 0, .int (S.2 ((x3 + (3 : Int32))).toNatClampNeg), .int (S.2 ((x3 + (2 : Int32))).toNatClampNeg), .int (S.2 ((x3 + (1 : Int32))).toNatClampNeg), .ref 129, .int q15.1]) (h' := hp q15.2) rfl ?_
  obtain ⟨g, h⟩ := am_itg h
  refine am_Y.sald rfl g ?_
  obtain ⟨q16, e_q16, h⟩ := Option.bind_eq_some_iff.mp h
  refine am_Y.call0 (M' := am_M85) (as := [.ref 129, .int (S.2 ((x3 + (1 : Int32))).toNatClampNeg), .int (S.2 ((x3 + (2 : Int32))).toNatClampNeg), .int (S.2 ((x3 + (3 : Int32))).toNatClampNeg), .int (S.2 ((x3 + (4 : Int32))).toNatClampNeg)]) (rest := [.int q15.1]) (d' := 5) rfl (by omega) rfl rfl (t_m_fewest N (S.2 ((x3 + (1 : Int32))).toNatClampNeg) (S.2 ((x3 + (2 : Int32))).toNatClampNeg) (S.2 ((x3 + (3 : Int32))).toNatClampNeg) (S.2 ((x3 + (4 : Int32))).toNatClampNeg) q15.2 q16.1 q16.2 e_q16) ?_
  refine am_Y.br (c := q15.1 = q16.1) _ (t := 1792) (u := 1637) (lv' := [(0, .ref 0), (1, .ref 5), (2, .ref 129), (3, .int x3)]) (st' := []) (h' := hp q16.2) rfl (fun hc => ?_) (fun hc => ?_)
  · replace h := (if_pos hc).symm.trans h
    refine am_Y.run (k := 2) (pc' := 18) (lv' := [(3, .int (x3 + (6 : Int32))), (0, .ref 0), (1, .ref 5), (2, .ref 129)]) (st' := []) (h' := hp q16.2) rfl ?_
    refine am_Y.weak (lv2 := [(0, .ref 0), (1, .ref 5), (2, .ref 129), (3, .int (x3 + (6 : Int32)))]) rfl rfl ⟨rfl, rfl, rfl, rfl, trivial⟩ ?_
    exact hK18 (x3 + (6 : Int32)) q16.2 _ _ h
  · replace h := (if_neg hc).symm.trans h
    refine am_Y.run (k := 1) (pc' := 1638) (lv' := [(0, .ref 0), (1, .ref 5), (2, .ref 129), (3, .int x3)]) (st' := [.int (0 : Int32)]) (h' := hp q16.2) rfl ?_
    obtain ⟨rfl, rfl⟩ := Prod.mk.inj (Option.some.inj h)
    exact am_Y.ret rfl
set_option maxRecDepth 100000 in
theorem t_law_1639 {S : Nat × (Nat → Int32)} (N : Nat) (K18 : Int32 → Mem → Option (Int32 × Mem)) (hK18 : ∀ (x3 : Int32) (M : Mem) (r : Int32) (M' : Mem), K18 x3 M = some (r, M') → am_Y S 68 0 0 am_ML 18 [(0, .ref 0), (1, .ref 5), (2, .ref 129), (3, .int x3)] [] (hp M) (some (.int r)) (hp M')) (x3 : Int32) (M : Mem) (r : Int32) (M' : Mem) (h : f_law_1639 S N K18 x3 M = some (r, M')) : am_Y S 68 0 0 am_ML 1639 [(0, .ref 0), (1, .ref 5), (2, .ref 129), (3, .int x3)] [] (hp M) (some (.int r)) (hp M') := by
  rw [f_law_1639] at h
  refine am_Y.run (k := 5) (pc' := 1644) (lv' := [(0, .ref 0), (1, .ref 5), (2, .ref 129), (3, .int x3)]) (st' := [.int (x3 + (1 : Int32)), .ref 0, .ref 5]) (h' := hp M) rfl ?_
  obtain ⟨g, h⟩ := am_itg h
  refine am_Y.sald rfl g ?_
  refine am_Y.run (k := 4) (pc' := 1649) (lv' := [(0, .ref 0), (1, .ref 5), (2, .ref 129), (3, .int x3)]) (st' := [.int (x3 + (2 : Int32)), .ref 0, .int (S.2 ((x3 + (1 : Int32))).toNatClampNeg), .ref 5]) (h' := hp M) rfl ?_
  obtain ⟨g, h⟩ := am_itg h
  refine am_Y.sald rfl g ?_
  obtain ⟨q13, e_q13, h⟩ := Option.bind_eq_some_iff.mp h
  refine am_Y.call0 (M' := am_M86) (as := [.ref 5, .int (S.2 ((x3 + (1 : Int32))).toNatClampNeg), .int (S.2 ((x3 + (2 : Int32))).toNatClampNeg)]) (rest := []) (d' := 5) rfl (by omega) rfl rfl (t_w_game N (S.2 ((x3 + (1 : Int32))).toNatClampNeg) (S.2 ((x3 + (2 : Int32))).toNatClampNeg) M q13.1 q13.2 e_q13) ?_
  refine am_Y.run (k := 5) (pc' := 1658) (lv' := [(0, .ref 0), (1, .ref 5), (2, .ref 129), (3, .int x3)]) (st' := [.int (x3 + (1 : Int32)), .ref 0, .ref 129, .long q13.1]) (h' := hp q13.2) rfl ?_
  obtain ⟨g, h⟩ := am_itg h
  refine am_Y.sald rfl g ?_
  refine am_Y.run (k := 4) (pc' := 1663) (lv' := [(0, .ref 0), (1, .ref 5), (2, .ref 129), (3, .int x3)]) (st' := [.int (x3 + (2 : Int32)), .ref 0, .int (S.2 ((x3 + (1 : Int32))).toNatClampNeg), .ref 129, .long q13.1]) (h' := hp q13.2) rfl ?_
  obtain ⟨g, h⟩ := am_itg h
  refine am_Y.sald rfl g ?_
  obtain ⟨q14, e_q14, h⟩ := Option.bind_eq_some_iff.mp h
  refine am_Y.call0 (M' := am_M87) (as := [.ref 129, .int (S.2 ((x3 + (1 : Int32))).toNatClampNeg), .int (S.2 ((x3 + (2 : Int32))).toNatClampNeg)]) (rest := [.long q13.1]) (d' := 2) rfl (by omega) rfl rfl (t_m_game N (S.2 ((x3 + (1 : Int32))).toNatClampNeg) (S.2 ((x3 + (2 : Int32))).toNatClampNeg) q13.2 q14.1 q14.2 e_q14) ?_
  refine am_Y.run (k := 1) (pc' := 1668) (lv' := [(0, .ref 0), (1, .ref 5), (2, .ref 129), (3, .int x3)]) (st' := [.int (lg_cmp q13.1 q14.1)]) (h' := hp q14.2) rfl ?_
  refine am_Y.br (c := (lg_cmp q13.1 q14.1) = (0 : Int32)) _ (t := 1792) (u := 1671) (lv' := [(0, .ref 0), (1, .ref 5), (2, .ref 129), (3, .int x3)]) (st' := []) (h' := hp q14.2) rfl (fun hc => ?_) (fun hc => ?_)
  · replace h := (if_pos hc).symm.trans h
    refine am_Y.run (k := 2) (pc' := 18) (lv' := [(3, .int (x3 + (6 : Int32))), (0, .ref 0), (1, .ref 5), (2, .ref 129)]) (st' := []) (h' := hp q14.2) rfl ?_
    refine am_Y.weak (lv2 := [(0, .ref 0), (1, .ref 5), (2, .ref 129), (3, .int (x3 + (6 : Int32)))]) rfl rfl ⟨rfl, rfl, rfl, rfl, trivial⟩ ?_
    exact hK18 (x3 + (6 : Int32)) q14.2 _ _ h
  · replace h := (if_neg hc).symm.trans h
    refine am_Y.run (k := 1) (pc' := 1672) (lv' := [(0, .ref 0), (1, .ref 5), (2, .ref 129), (3, .int x3)]) (st' := [.int (0 : Int32)]) (h' := hp q14.2) rfl ?_
    obtain ⟨rfl, rfl⟩ := Prod.mk.inj (Option.some.inj h)
    exact am_Y.ret rfl
set_option maxRecDepth 100000 in
theorem t_law_1673 {S : Nat × (Nat → Int32)} (N : Nat) (K18 : Int32 → Mem → Option (Int32 × Mem)) (hK18 : ∀ (x3 : Int32) (M : Mem) (r : Int32) (M' : Mem), K18 x3 M = some (r, M') → am_Y S 68 0 0 am_ML 18 [(0, .ref 0), (1, .ref 5), (2, .ref 129), (3, .int x3)] [] (hp M) (some (.int r)) (hp M')) (x3 : Int32) (M : Mem) (r : Int32) (M' : Mem) (h : f_law_1673 S N K18 x3 M = some (r, M')) : am_Y S 68 0 0 am_ML 1673 [(0, .ref 0), (1, .ref 5), (2, .ref 129), (3, .int x3)] [] (hp M) (some (.int r)) (hp M') := by
  rw [f_law_1673] at h
  refine am_Y.run (k := 5) (pc' := 1678) (lv' := [(0, .ref 0), (1, .ref 5), (2, .ref 129), (3, .int x3)]) (st' := [.int (x3 + (1 : Int32)), .ref 0, .ref 5]) (h' := hp M) rfl ?_
  obtain ⟨g, h⟩ := am_itg h
  refine am_Y.sald rfl g ?_
  refine am_Y.run (k := 4) (pc' := 1683) (lv' := [(0, .ref 0), (1, .ref 5), (2, .ref 129), (3, .int x3)]) (st' := [.int (x3 + (2 : Int32)), .ref 0, .int (S.2 ((x3 + (1 : Int32))).toNatClampNeg), .ref 5]) (h' := hp M) rfl ?_
  obtain ⟨g, h⟩ := am_itg h
  refine am_Y.sald rfl g ?_
  refine am_Y.run (k := 4) (pc' := 1688) (lv' := [(0, .ref 0), (1, .ref 5), (2, .ref 129), (3, .int x3)]) (st' := [.int (x3 + (3 : Int32)), .ref 0, .int (S.2 ((x3 + (2 : Int32))).toNatClampNeg), .int (S.2 ((x3 + (1 : Int32))).toNatClampNeg), .ref 5]) (h' := hp M) rfl ?_
  obtain ⟨g, h⟩ := am_itg h
  refine am_Y.sald rfl g ?_
  refine am_Y.run (k := 4) (pc' := 1693) (lv' := [(0, .ref 0), (1, .ref 5), (2, .ref 129), (3, .int x3)]) (st' := [.int (x3 + (4 : Int32)), .ref 0, .int (S.2 ((x3 + (3 : Int32))).toNatClampNeg), .int (S.2 ((x3 + (2 : Int32))).toNatClampNeg), .int (S.2 ((x3 + (1 : Int32))).toNatClampNeg), .ref 5]) (h' := hp M) rfl ?_
  obtain ⟨g, h⟩ := am_itg h
  refine am_Y.sald rfl g ?_
  refine am_Y.br (c := (S.2 ((x3 + (4 : Int32))).toNatClampNeg) = (0 : Int32)) _ (t := 1701) (u := 1697) (lv' := [(0, .ref 0), (1, .ref 5), (2, .ref 129), (3, .int x3)]) (st' := [.int (S.2 ((x3 + (3 : Int32))).toNatClampNeg), .int (S.2 ((x3 + (2 : Int32))).toNatClampNeg), .int (S.2 ((x3 + (1 : Int32))).toNatClampNeg), .ref 5]) (h' := hp M) rfl (fun hc => ?_) (fun hc => ?_)
  · replace h := (if_pos hc).symm.trans h
    refine am_Y.run (k := 1) (pc' := 1702) (lv' := [(0, .ref 0), (1, .ref 5), (2, .ref 129), (3, .int x3)]) (st' := [.int (0 : Int32), .int (S.2 ((x3 + (3 : Int32))).toNatClampNeg), .int (S.2 ((x3 + (2 : Int32))).toNatClampNeg), .int (S.2 ((x3 + (1 : Int32))).toNatClampNeg), .ref 5]) (h' := hp M) rfl ?_
    obtain ⟨q7, e_q7, h⟩ := Option.bind_eq_some_iff.mp h
    refine am_Y.call0 (M' := am_M88) (as := [.ref 5, .int (S.2 ((x3 + (1 : Int32))).toNatClampNeg), .int (S.2 ((x3 + (2 : Int32))).toNatClampNeg), .int (S.2 ((x3 + (3 : Int32))).toNatClampNeg), .int (0 : Int32)]) (rest := []) (d' := 5) rfl (by omega) rfl rfl (t_w_cough N (S.2 ((x3 + (1 : Int32))).toNatClampNeg) (S.2 ((x3 + (2 : Int32))).toNatClampNeg) (S.2 ((x3 + (3 : Int32))).toNatClampNeg) (0 : Int32) M q7.1 q7.2 e_q7) ?_
    refine am_Y.run (k := 5) (pc' := 1710) (lv' := [(0, .ref 0), (1, .ref 5), (2, .ref 129), (3, .int x3)]) (st' := [.int (x3 + (1 : Int32)), .ref 0, .ref 129, .long q7.1]) (h' := hp q7.2) rfl ?_
    obtain ⟨g, h⟩ := am_itg h
    refine am_Y.sald rfl g ?_
    refine am_Y.run (k := 4) (pc' := 1715) (lv' := [(0, .ref 0), (1, .ref 5), (2, .ref 129), (3, .int x3)]) (st' := [.int (x3 + (2 : Int32)), .ref 0, .int (S.2 ((x3 + (1 : Int32))).toNatClampNeg), .ref 129, .long q7.1]) (h' := hp q7.2) rfl ?_
    obtain ⟨g, h⟩ := am_itg h
    refine am_Y.sald rfl g ?_
    refine am_Y.run (k := 4) (pc' := 1720) (lv' := [(0, .ref 0), (1, .ref 5), (2, .ref 129), (3, .int x3)]) (st' := [.int (x3 + (3 : Int32)), .ref 0, .int (S.2 ((x3 + (2 : Int32))).toNatClampNeg), .int (S.2 ((x3 + (1 : Int32))).toNatClampNeg), .ref 129, .long q7.1]) (h' := hp q7.2) rfl ?_
    obtain ⟨g, h⟩ := am_itg h
    refine am_Y.sald rfl g ?_
    refine am_Y.run (k := 4) (pc' := 1725) (lv' := [(0, .ref 0), (1, .ref 5), (2, .ref 129), (3, .int x3)]) (st' := [.int (x3 + (4 : Int32)), .ref 0, .int (S.2 ((x3 + (3 : Int32))).toNatClampNeg), .int (S.2 ((x3 + (2 : Int32))).toNatClampNeg), .int (S.2 ((x3 + (1 : Int32))).toNatClampNeg), .ref 129, .long q7.1]) (h' := hp q7.2) rfl ?_
    obtain ⟨g, h⟩ := am_itg h
    refine am_Y.sald rfl g ?_
    refine am_Y.br (c := (S.2 ((x3 + (4 : Int32))).toNatClampNeg) = (0 : Int32)) _ (t := 1733) (u := 1729) (lv' := [(0, .ref 0), (1, .ref 5), (2, .ref 129), (3, .int x3)]) (st' := [.int (S.2 ((x3 + (3 : Int32))).toNatClampNeg), .int (S.2 ((x3 + (2 : Int32))).toNatClampNeg), .int (S.2 ((x3 + (1 : Int32))).toNatClampNeg), .ref 129, .long q7.1]) (h' := hp q7.2) rfl (fun hc => ?_) (fun hc => ?_)
    · replace h := (if_pos hc).symm.trans h
      refine am_Y.run (k := 1) (pc' := 1734) (lv' := [(0, .ref 0), (1, .ref 5), (2, .ref 129), (3, .int x3)]) (st' := [.int (0 : Int32), .int (S.2 ((x3 + (3 : Int32))).toNatClampNeg), .int (S.2 ((x3 + (2 : Int32))).toNatClampNeg), .int (S.2 ((x3 + (1 : Int32))).toNatClampNeg), .ref 129, .long q7.1]) (h' := hp q7.2) rfl ?_
      obtain ⟨q8, e_q8, h⟩ := Option.bind_eq_some_iff.mp h
      refine am_Y.call0 (M' := am_M89) (as := [.ref 129, .int (S.2 ((x3 + (1 : Int32))).toNatClampNeg), .int (S.2 ((x3 + (2 : Int32))).toNatClampNeg), .int (S.2 ((x3 + (3 : Int32))).toNatClampNeg), .int (0 : Int32)]) (rest := [.long q7.1]) (d' := 4) rfl (by omega) rfl rfl (t_m_cough N (S.2 ((x3 + (1 : Int32))).toNatClampNeg) (S.2 ((x3 + (2 : Int32))).toNatClampNeg) (S.2 ((x3 + (3 : Int32))).toNatClampNeg) (0 : Int32) q7.2 q8.1 q8.2 e_q8) ?_
      refine am_Y.run (k := 1) (pc' := 1738) (lv' := [(0, .ref 0), (1, .ref 5), (2, .ref 129), (3, .int x3)]) (st' := [.int (lg_cmp q7.1 q8.1)]) (h' := hp q8.2) rfl ?_
      refine am_Y.br (c := (lg_cmp q7.1 q8.1) = (0 : Int32)) _ (t := 1792) (u := 1741) (lv' := [(0, .ref 0), (1, .ref 5), (2, .ref 129), (3, .int x3)]) (st' := []) (h' := hp q8.2) rfl (fun hc => ?_) (fun hc => ?_)
      · replace h := (if_pos hc).symm.trans h
        refine am_Y.run (k := 2) (pc' := 18) (lv' := [(3, .int (x3 + (6 : Int32))), (0, .ref 0), (1, .ref 5), (2, .ref 129)]) (st' := []) (h' := hp q8.2) rfl ?_
        refine am_Y.weak (lv2 := [(0, .ref 0), (1, .ref 5), (2, .ref 129), (3, .int (x3 + (6 : Int32)))]) rfl rfl ⟨rfl, rfl, rfl, rfl, trivial⟩ ?_
        exact hK18 (x3 + (6 : Int32)) q8.2 _ _ h
      · replace h := (if_neg hc).symm.trans h
        refine am_Y.run (k := 1) (pc' := 1742) (lv' := [(0, .ref 0), (1, .ref 5), (2, .ref 129), (3, .int x3)]) (st' := [.int (0 : Int32)]) (h' := hp q8.2) rfl ?_
        obtain ⟨rfl, rfl⟩ := Prod.mk.inj (Option.some.inj h)
        exact am_Y.ret rfl
    · replace h := (if_neg hc).symm.trans h
      refine am_Y.run (k := 2) (pc' := 1734) (lv' := [(0, .ref 0), (1, .ref 5), (2, .ref 129), (3, .int x3)]) (st' := [.int (1 : Int32), .int (S.2 ((x3 + (3 : Int32))).toNatClampNeg), .int (S.2 ((x3 + (2 : Int32))).toNatClampNeg), .int (S.2 ((x3 + (1 : Int32))).toNatClampNeg), .ref 129, .long q7.1]) (h' := hp q7.2) rfl ?_
      obtain ⟨q9, e_q9, h⟩ := Option.bind_eq_some_iff.mp h
      refine am_Y.call0 (M' := am_M89) (as := [.ref 129, .int (S.2 ((x3 + (1 : Int32))).toNatClampNeg), .int (S.2 ((x3 + (2 : Int32))).toNatClampNeg), .int (S.2 ((x3 + (3 : Int32))).toNatClampNeg), .int (1 : Int32)]) (rest := [.long q7.1]) (d' := 4) rfl (by omega) rfl rfl (t_m_cough N (S.2 ((x3 + (1 : Int32))).toNatClampNeg) (S.2 ((x3 + (2 : Int32))).toNatClampNeg) (S.2 ((x3 + (3 : Int32))).toNatClampNeg) (1 : Int32) q7.2 q9.1 q9.2 e_q9) ?_
      refine am_Y.run (k := 1) (pc' := 1738) (lv' := [(0, .ref 0), (1, .ref 5), (2, .ref 129), (3, .int x3)]) (st' := [.int (lg_cmp q7.1 q9.1)]) (h' := hp q9.2) rfl ?_
      refine am_Y.br (c := (lg_cmp q7.1 q9.1) = (0 : Int32)) _ (t := 1792) (u := 1741) (lv' := [(0, .ref 0), (1, .ref 5), (2, .ref 129), (3, .int x3)]) (st' := []) (h' := hp q9.2) rfl (fun hc => ?_) (fun hc => ?_)
      · replace h := (if_pos hc).symm.trans h
        refine am_Y.run (k := 2) (pc' := 18) (lv' := [(3, .int (x3 + (6 : Int32))), (0, .ref 0), (1, .ref 5), (2, .ref 129)]) (st' := []) (h' := hp q9.2) rfl ?_
        refine am_Y.weak (lv2 := [(0, .ref 0), (1, .ref 5), (2, .ref 129), (3, .int (x3 + (6 : Int32)))]) rfl rfl ⟨rfl, rfl, rfl, rfl, trivial⟩ ?_
        exact hK18 (x3 + (6 : Int32)) q9.2 _ _ h
      · replace h := (if_neg hc).symm.trans h
        refine am_Y.run (k := 1) (pc' := 1742) (lv' := [(0, .ref 0), (1, .ref 5), (2, .ref 129), (3, .int x3)]) (st' := [.int (0 : Int32)]) (h' := hp q9.2) rfl ?_
        obtain ⟨rfl, rfl⟩ := Prod.mk.inj (Option.some.inj h)
        exact am_Y.ret rfl
  · replace h := (if_neg hc).symm.trans h
    refine am_Y.run (k := 2) (pc' := 1702) (lv' := [(0, .ref 0), (1, .ref 5), (2, .ref 129), (3, .int x3)]) (st' := [.int (1 : Int32), .int (S.2 ((x3 + (3 : Int32))).toNatClampNeg), .int (S.2 ((x3 + (2 : Int32))).toNatClampNeg), .int (S.2 ((x3 + (1 : Int32))).toNatClampNeg), .ref 5]) (h' := hp M) rfl ?_
    obtain ⟨q10, e_q10, h⟩ := Option.bind_eq_some_iff.mp h
    refine am_Y.call0 (M' := am_M88) (as := [.ref 5, .int (S.2 ((x3 + (1 : Int32))).toNatClampNeg), .int (S.2 ((x3 + (2 : Int32))).toNatClampNeg), .int (S.2 ((x3 + (3 : Int32))).toNatClampNeg), .int (1 : Int32)]) (rest := []) (d' := 5) rfl (by omega) rfl rfl (t_w_cough N (S.2 ((x3 + (1 : Int32))).toNatClampNeg) (S.2 ((x3 + (2 : Int32))).toNatClampNeg) (S.2 ((x3 + (3 : Int32))).toNatClampNeg) (1 : Int32) M q10.1 q10.2 e_q10) ?_
    refine am_Y.run (k := 5) (pc' := 1710) (lv' := [(0, .ref 0), (1, .ref 5), (2, .ref 129), (3, .int x3)]) (st' := [.int (x3 + (1 : Int32)), .ref 0, .ref 129, .long q10.1]) (h' := hp q10.2) rfl ?_
    obtain ⟨g, h⟩ := am_itg h
    refine am_Y.sald rfl g ?_
    refine am_Y.run (k := 4) (pc' := 1715) (lv' := [(0, .ref 0), (1, .ref 5), (2, .ref 129), (3, .int x3)]) (st' := [.int (x3 + (2 : Int32)), .ref 0, .int (S.2 ((x3 + (1 : Int32))).toNatClampNeg), .ref 129, .long q10.1]) (h' := hp q10.2) rfl ?_
    obtain ⟨g, h⟩ := am_itg h
    refine am_Y.sald rfl g ?_
    refine am_Y.run (k := 4) (pc' := 1720) (lv' := [(0, .ref 0), (1, .ref 5), (2, .ref 129), (3, .int x3)]) (st' := [.int (x3 + (3 : Int32)), .ref 0, .int (S.2 ((x3 + (2 : Int32))).toNatClampNeg), .int (S.2 ((x3 + (1 : Int32))).toNatClampNeg), .ref 129, .long q10.1]) (h' := hp q10.2) rfl ?_
    obtain ⟨g, h⟩ := am_itg h
    refine am_Y.sald rfl g ?_
    refine am_Y.run (k := 4) (pc' := 1725) (lv' := [(0, .ref 0), (1, .ref 5), (2, .ref 129), (3, .int x3)]) (st' := [.int (x3 + (4 : Int32)), .ref 0, .int (S.2 ((x3 + (3 : Int32))).toNatClampNeg), .int (S.2 ((x3 + (2 : Int32))).toNatClampNeg), .int (S.2 ((x3 + (1 : Int32))).toNatClampNeg), .ref 129, .long q10.1]) (h' := hp q10.2) rfl ?_
    obtain ⟨g, h⟩ := am_itg h
    refine am_Y.sald rfl g ?_
    refine am_Y.br (c := (S.2 ((x3 + (4 : Int32))).toNatClampNeg) = (0 : Int32)) _ (t := 1733) (u := 1729) (lv' := [(0, .ref 0), (1, .ref 5), (2, .ref 129), (3, .int x3)]) (st' := [.int (S.2 ((x3 + (3 : Int32))).toNatClampNeg), .int (S.2 ((x3 + (2 : Int32))).toNatClampNeg), .int (S.2 ((x3 + (1 : Int32))).toNatClampNeg), .ref 129, .long q10.1]) (h' := hp q10.2) rfl (fun hc => ?_) (fun hc => ?_)
    · replace h := (if_pos hc).symm.trans h
      refine am_Y.run (k := 1) (pc' := 1734) (lv' := [(0, .ref 0), (1, .ref 5), (2, .ref 129), (3, .int x3)]) (st' := [.int (0 : Int32), .int (S.2 ((x3 + (3 : Int32))).toNatClampNeg), .int (S.2 ((x3 + (2 : Int32))).toNatClampNeg), .int (S.2 ((x3 + (1 : Int32))).toNatClampNeg), .ref 129, .long q10.1]) (h' := hp q10.2) rfl ?_
      obtain ⟨q11, e_q11, h⟩ := Option.bind_eq_some_iff.mp h
      refine am_Y.call0 (M' := am_M89) (as := [.ref 129, .int (S.2 ((x3 + (1 : Int32))).toNatClampNeg), .int (S.2 ((x3 + (2 : Int32))).toNatClampNeg), .int (S.2 ((x3 + (3 : Int32))).toNatClampNeg), .int (0 : Int32)]) (rest := [.long q10.1]) (d' := 4) rfl (by omega) rfl rfl (t_m_cough N (S.2 ((x3 + (1 : Int32))).toNatClampNeg) (S.2 ((x3 + (2 : Int32))).toNatClampNeg) (S.2 ((x3 + (3 : Int32))).toNatClampNeg) (0 : Int32) q10.2 q11.1 q11.2 e_q11) ?_
      refine am_Y.run (k := 1) (pc' := 1738) (lv' := [(0, .ref 0), (1, .ref 5), (2, .ref 129), (3, .int x3)]) (st' := [.int (lg_cmp q10.1 q11.1)]) (h' := hp q11.2) rfl ?_
      refine am_Y.br (c := (lg_cmp q10.1 q11.1) = (0 : Int32)) _ (t := 1792) (u := 1741) (lv' := [(0, .ref 0), (1, .ref 5), (2, .ref 129), (3, .int x3)]) (st' := []) (h' := hp q11.2) rfl (fun hc => ?_) (fun hc => ?_)
      · replace h := (if_pos hc).symm.trans h
        refine am_Y.run (k := 2) (pc' := 18) (lv' := [(3, .int (x3 + (6 : Int32))), (0, .ref 0), (1, .ref 5), (2, .ref 129)]) (st' := []) (h' := hp q11.2) rfl ?_
        refine am_Y.weak (lv2 := [(0, .ref 0), (1, .ref 5), (2, .ref 129), (3, .int (x3 + (6 : Int32)))]) rfl rfl ⟨rfl, rfl, rfl, rfl, trivial⟩ ?_
        exact hK18 (x3 + (6 : Int32)) q11.2 _ _ h
      · replace h := (if_neg hc).symm.trans h
        refine am_Y.run (k := 1) (pc' := 1742) (lv' := [(0, .ref 0), (1, .ref 5), (2, .ref 129), (3, .int x3)]) (st' := [.int (0 : Int32)]) (h' := hp q11.2) rfl ?_
        obtain ⟨rfl, rfl⟩ := Prod.mk.inj (Option.some.inj h)
        exact am_Y.ret rfl
    · replace h := (if_neg hc).symm.trans h
      refine am_Y.run (k := 2) (pc' := 1734) (lv' := [(0, .ref 0), (1, .ref 5), (2, .ref 129), (3, .int x3)]) (st' := [.int (1 : Int32), .int (S.2 ((x3 + (3 : Int32))).toNatClampNeg), .int (S.2 ((x3 + (2 : Int32))).toNatClampNeg), .int (S.2 ((x3 + (1 : Int32))).toNatClampNeg), .ref 129, .long q10.1]) (h' := hp q10.2) rfl ?_
      obtain ⟨q12, e_q12, h⟩ := Option.bind_eq_some_iff.mp h
      refine am_Y.call0 (M' := am_M89) (as := [.ref 129, .int (S.2 ((x3 + (1 : Int32))).toNatClampNeg), .int (S.2 ((x3 + (2 : Int32))).toNatClampNeg), .int (S.2 ((x3 + (3 : Int32))).toNatClampNeg), .int (1 : Int32)]) (rest := [.long q10.1]) (d' := 4) rfl (by omega) rfl rfl (t_m_cough N (S.2 ((x3 + (1 : Int32))).toNatClampNeg) (S.2 ((x3 + (2 : Int32))).toNatClampNeg) (S.2 ((x3 + (3 : Int32))).toNatClampNeg) (1 : Int32) q10.2 q12.1 q12.2 e_q12) ?_
      refine am_Y.run (k := 1) (pc' := 1738) (lv' := [(0, .ref 0), (1, .ref 5), (2, .ref 129), (3, .int x3)]) (st' := [.int (lg_cmp q10.1 q12.1)]) (h' := hp q12.2) rfl ?_
      refine am_Y.br (c := (lg_cmp q10.1 q12.1) = (0 : Int32)) _ (t := 1792) (u := 1741) (lv' := [(0, .ref 0), (1, .ref 5), (2, .ref 129), (3, .int x3)]) (st' := []) (h' := hp q12.2) rfl (fun hc => ?_) (fun hc => ?_)
      · replace h := (if_pos hc).symm.trans h
        refine am_Y.run (k := 2) (pc' := 18) (lv' := [(3, .int (x3 + (6 : Int32))), (0, .ref 0), (1, .ref 5), (2, .ref 129)]) (st' := []) (h' := hp q12.2) rfl ?_
        refine am_Y.weak (lv2 := [(0, .ref 0), (1, .ref 5), (2, .ref 129), (3, .int (x3 + (6 : Int32)))]) rfl rfl ⟨rfl, rfl, rfl, rfl, trivial⟩ ?_
        exact hK18 (x3 + (6 : Int32)) q12.2 _ _ h
      · replace h := (if_neg hc).symm.trans h
        refine am_Y.run (k := 1) (pc' := 1742) (lv' := [(0, .ref 0), (1, .ref 5), (2, .ref 129), (3, .int x3)]) (st' := [.int (0 : Int32)]) (h' := hp q12.2) rfl ?_
        obtain ⟨rfl, rfl⟩ := Prod.mk.inj (Option.some.inj h)
        exact am_Y.ret rfl
set_option maxRecDepth 100000 in
theorem t_law_1743 {S : Nat × (Nat → Int32)} (N : Nat) (K18 : Int32 → Mem → Option (Int32 × Mem)) (hK18 : ∀ (x3 : Int32) (M : Mem) (r : Int32) (M' : Mem), K18 x3 M = some (r, M') → am_Y S 68 0 0 am_ML 18 [(0, .ref 0), (1, .ref 5), (2, .ref 129), (3, .int x3)] [] (hp M) (some (.int r)) (hp M')) (x3 : Int32) (M : Mem) (r : Int32) (M' : Mem) (h : f_law_1743 S N K18 x3 M = some (r, M')) : am_Y S 68 0 0 am_ML 1743 [(0, .ref 0), (1, .ref 5), (2, .ref 129), (3, .int x3)] [] (hp M) (some (.int r)) (hp M') := by
  rw [f_law_1743] at h
  refine am_Y.run (k := 1) (pc' := 1744) (lv' := [(0, .ref 0), (1, .ref 5), (2, .ref 129), (3, .int x3)]) (st' := [.ref 5]) (h' := hp M) rfl ?_
  obtain ⟨q5, e_q5, h⟩ := Option.bind_eq_some_iff.mp h
  refine am_Y.call0 (M' := am_M90) (as := [.ref 5]) (rest := []) (d' := 3) rfl (by omega) rfl rfl (t_w_image N M q5.1 q5.2 e_q5) ?_
  refine am_Y.run (k := 1) (pc' := 1748) (lv' := [(0, .ref 0), (1, .ref 5), (2, .ref 129), (3, .int x3)]) (st' := [.ref 129, .int q5.1]) (h' := hp q5.2) rfl ?_
  obtain ⟨q6, e_q6, h⟩ := Option.bind_eq_some_iff.mp h
  refine am_Y.call0 (M' := am_M91) (as := [.ref 129]) (rest := [.int q5.1]) (d' := 1) rfl (by omega) rfl rfl (t_m_image N q5.2 q6.1 q6.2 e_q6) ?_
  refine am_Y.br (c := q5.1 = q6.1) _ (t := 1792) (u := 1754) (lv' := [(0, .ref 0), (1, .ref 5), (2, .ref 129), (3, .int x3)]) (st' := []) (h' := hp q6.2) rfl (fun hc => ?_) (fun hc => ?_)
  · replace h := (if_pos hc).symm.trans h
    refine am_Y.run (k := 2) (pc' := 18) (lv' := [(3, .int (x3 + (6 : Int32))), (0, .ref 0), (1, .ref 5), (2, .ref 129)]) (st' := []) (h' := hp q6.2) rfl ?_
    refine am_Y.weak (lv2 := [(0, .ref 0), (1, .ref 5), (2, .ref 129), (3, .int (x3 + (6 : Int32)))]) rfl rfl ⟨rfl, rfl, rfl, rfl, trivial⟩ ?_
    exact hK18 (x3 + (6 : Int32)) q6.2 _ _ h
  · replace h := (if_neg hc).symm.trans h
    refine am_Y.run (k := 1) (pc' := 1755) (lv' := [(0, .ref 0), (1, .ref 5), (2, .ref 129), (3, .int x3)]) (st' := [.int (0 : Int32)]) (h' := hp q6.2) rfl ?_
    obtain ⟨rfl, rfl⟩ := Prod.mk.inj (Option.some.inj h)
    exact am_Y.ret rfl
set_option maxRecDepth 100000 in
theorem t_law_1756 {S : Nat × (Nat → Int32)} (N : Nat) (K18 : Int32 → Mem → Option (Int32 × Mem)) (hK18 : ∀ (x3 : Int32) (M : Mem) (r : Int32) (M' : Mem), K18 x3 M = some (r, M') → am_Y S 68 0 0 am_ML 18 [(0, .ref 0), (1, .ref 5), (2, .ref 129), (3, .int x3)] [] (hp M) (some (.int r)) (hp M')) (x3 : Int32) (M : Mem) (r : Int32) (M' : Mem) (h : f_law_1756 S N K18 x3 M = some (r, M')) : am_Y S 68 0 0 am_ML 1756 [(0, .ref 0), (1, .ref 5), (2, .ref 129), (3, .int x3)] [] (hp M) (some (.int r)) (hp M') := by
  rw [f_law_1756] at h
  refine am_Y.run (k := 1) (pc' := 1757) (lv' := [(0, .ref 0), (1, .ref 5), (2, .ref 129), (3, .int x3)]) (st' := [.ref 5]) (h' := hp M) rfl ?_
  obtain ⟨q3, e_q3, h⟩ := Option.bind_eq_some_iff.mp h
  refine am_Y.call0 (M' := am_M92) (as := [.ref 5]) (rest := []) (d' := 3) rfl (by omega) rfl rfl (t_w_back N M q3.1 q3.2 e_q3) ?_
  refine am_Y.run (k := 1) (pc' := 1761) (lv' := [(0, .ref 0), (1, .ref 5), (2, .ref 129), (3, .int x3)]) (st' := [.ref 129, .int q3.1]) (h' := hp q3.2) rfl ?_
  obtain ⟨q4, e_q4, h⟩ := Option.bind_eq_some_iff.mp h
  refine am_Y.call0 (M' := am_M93) (as := [.ref 129]) (rest := [.int q3.1]) (d' := 1) rfl (by omega) rfl rfl (t_m_back N q3.2 q4.1 q4.2 e_q4) ?_
  refine am_Y.br (c := q3.1 = q4.1) _ (t := 1792) (u := 1767) (lv' := [(0, .ref 0), (1, .ref 5), (2, .ref 129), (3, .int x3)]) (st' := []) (h' := hp q4.2) rfl (fun hc => ?_) (fun hc => ?_)
  · replace h := (if_pos hc).symm.trans h
    refine am_Y.run (k := 2) (pc' := 18) (lv' := [(3, .int (x3 + (6 : Int32))), (0, .ref 0), (1, .ref 5), (2, .ref 129)]) (st' := []) (h' := hp q4.2) rfl ?_
    refine am_Y.weak (lv2 := [(0, .ref 0), (1, .ref 5), (2, .ref 129), (3, .int (x3 + (6 : Int32)))]) rfl rfl ⟨rfl, rfl, rfl, rfl, trivial⟩ ?_
    exact hK18 (x3 + (6 : Int32)) q4.2 _ _ h
  · replace h := (if_neg hc).symm.trans h
    refine am_Y.run (k := 1) (pc' := 1768) (lv' := [(0, .ref 0), (1, .ref 5), (2, .ref 129), (3, .int x3)]) (st' := [.int (0 : Int32)]) (h' := hp q4.2) rfl ?_
    obtain ⟨rfl, rfl⟩ := Prod.mk.inj (Option.some.inj h)
    exact am_Y.ret rfl
set_option maxRecDepth 100000 in
theorem t_law_1769 {S : Nat × (Nat → Int32)} (N : Nat) (K18 : Int32 → Mem → Option (Int32 × Mem)) (hK18 : ∀ (x3 : Int32) (M : Mem) (r : Int32) (M' : Mem), K18 x3 M = some (r, M') → am_Y S 68 0 0 am_ML 18 [(0, .ref 0), (1, .ref 5), (2, .ref 129), (3, .int x3)] [] (hp M) (some (.int r)) (hp M')) (x3 : Int32) (M : Mem) (r : Int32) (M' : Mem) (h : f_law_1769 S N K18 x3 M = some (r, M')) : am_Y S 68 0 0 am_ML 1769 [(0, .ref 0), (1, .ref 5), (2, .ref 129), (3, .int x3)] [] (hp M) (some (.int r)) (hp M') := by
  rw [f_law_1769] at h
  refine am_Y.run (k := 5) (pc' := 1774) (lv' := [(0, .ref 0), (1, .ref 5), (2, .ref 129), (3, .int x3)]) (st' := [.int (x3 + (1 : Int32)), .ref 0, .ref 5]) (h' := hp M) rfl ?_
  obtain ⟨g, h⟩ := am_itg h
  refine am_Y.sald rfl g ?_
  obtain ⟨q1, e_q1, h⟩ := Option.bind_eq_some_iff.mp h
  refine am_Y.call0 (M' := am_M94) (as := [.ref 5, .int (S.2 ((x3 + (1 : Int32))).toNatClampNeg)]) (rest := []) (d' := 2) rfl (by omega) rfl rfl (t_w_about N (S.2 ((x3 + (1 : Int32))).toNatClampNeg) M q1 e_q1) ?_
  refine am_Y.run (k := 5) (pc' := 1783) (lv' := [(0, .ref 0), (1, .ref 5), (2, .ref 129), (3, .int x3)]) (st' := [.int (x3 + (1 : Int32)), .ref 0, .ref 129, .int q1]) (h' := hp M) rfl ?_
  obtain ⟨g, h⟩ := am_itg h
  refine am_Y.sald rfl g ?_
  obtain ⟨q2, e_q2, h⟩ := Option.bind_eq_some_iff.mp h
  refine am_Y.call0 (M' := am_M95) (as := [.ref 129, .int (S.2 ((x3 + (1 : Int32))).toNatClampNeg)]) (rest := [.int q1]) (d' := 3) rfl (by omega) rfl rfl (t_m_about N (S.2 ((x3 + (1 : Int32))).toNatClampNeg) M q2 e_q2) ?_
  refine am_Y.br (c := q1 = q2) _ (t := 1792) (u := 1790) (lv' := [(0, .ref 0), (1, .ref 5), (2, .ref 129), (3, .int x3)]) (st' := []) (h' := hp M) rfl (fun hc => ?_) (fun hc => ?_)
  · replace h := (if_pos hc).symm.trans h
    refine am_Y.run (k := 2) (pc' := 18) (lv' := [(3, .int (x3 + (6 : Int32))), (0, .ref 0), (1, .ref 5), (2, .ref 129)]) (st' := []) (h' := hp M) rfl ?_
    refine am_Y.weak (lv2 := [(0, .ref 0), (1, .ref 5), (2, .ref 129), (3, .int (x3 + (6 : Int32)))]) rfl rfl ⟨rfl, rfl, rfl, rfl, trivial⟩ ?_
    exact hK18 (x3 + (6 : Int32)) M _ _ h
  · replace h := (if_neg hc).symm.trans h
    refine am_Y.run (k := 1) (pc' := 1791) (lv' := [(0, .ref 0), (1, .ref 5), (2, .ref 129), (3, .int x3)]) (st' := [.int (0 : Int32)]) (h' := hp M) rfl ?_
    obtain ⟨rfl, rfl⟩ := Prod.mk.inj (Option.some.inj h)
    exact am_Y.ret rfl
set_option maxRecDepth 100000 in
theorem t_law_18 {S : Nat × (Nat → Int32)} (N : Nat) : ∀ (n : Nat) (x3 : Int32) (M : Mem) (r : Int32) (M' : Mem), f_law_18 S N n x3 M = some (r, M') → am_Y S 68 0 0 am_ML 18 [(0, .ref 0), (1, .ref 5), (2, .ref 129), (3, .int x3)] [] (hp M) (some (.int r)) (hp M') := by
  intro n
  induction n with
  | zero =>
    intro x3 M r M' h
    cases h
  | succ n ih =>
    intro x3 M r M' h
    rw [f_law_18] at h
    refine am_Y.run (k := 5) (pc' := 24) (lv' := [(0, .ref 0), (1, .ref 5), (2, .ref 129), (3, .int x3)]) (st' := [.int ((Int32.ofNat S.1) - (6 : Int32)), .int x3]) (h' := hp M) rfl ?_
    refine am_Y.br (c := ((Int32.ofNat S.1) - (6 : Int32)) < x3) _ (t := 1798) (u := 27) (lv' := [(0, .ref 0), (1, .ref 5), (2, .ref 129), (3, .int x3)]) (st' := []) (h' := hp M) rfl (fun hc => ?_) (fun hc => ?_)
    · replace h := (if_pos hc).symm.trans h
      refine am_Y.run (k := 1) (pc' := 1799) (lv' := [(0, .ref 0), (1, .ref 5), (2, .ref 129), (3, .int x3)]) (st' := [.int (1 : Int32)]) (h' := hp M) rfl ?_
      obtain ⟨rfl, rfl⟩ := Prod.mk.inj (Option.some.inj h)
      exact am_Y.ret rfl
    · replace h := (if_neg hc).symm.trans h
      refine am_Y.run (k := 2) (pc' := 29) (lv' := [(0, .ref 0), (1, .ref 5), (2, .ref 129), (3, .int x3)]) (st' := [.int x3, .ref 0]) (h' := hp M) rfl ?_
      obtain ⟨g, h⟩ := am_itg h
      refine am_Y.sald rfl g ?_
      refine am_Y.run (k := 2) (pc' := 33) (lv' := [(0, .ref 0), (1, .ref 5), (2, .ref 129), (3, .int x3)]) (st' := [.int ((S.2 (x3).toNatClampNeg) &&& (63 : Int32))]) (h' := hp M) rfl ?_
      by_cases hc0 : ((S.2 (x3).toNatClampNeg) &&& (63 : Int32)) = (0 : Int32)
      · replace h := (if_pos hc0).symm.trans h
        refine am_Y.one (pc' := 236) (lv' := [(0, .ref 0), (1, .ref 5), (2, .ref 129), (3, .int x3)]) (st' := []) (h' := hp M) (am_swc hc0 rfl) ?_
        refine am_Y.weak (lv2 := [(0, .ref 0), (1, .ref 5), (2, .ref 129), (3, .int x3)]) rfl rfl ⟨rfl, rfl, rfl, rfl, trivial⟩ ?_
        exact t_law_236 N _ ih x3 M _ _ h
      replace h := (if_neg hc0).symm.trans h
      by_cases hc1 : ((S.2 (x3).toNatClampNeg) &&& (63 : Int32)) = (1 : Int32)
      · replace h := (if_pos hc1).symm.trans h
        refine am_Y.one (pc' := 279) (lv' := [(0, .ref 0), (1, .ref 5), (2, .ref 129), (3, .int x3)]) (st' := []) (h' := hp M) (am_swc hc1 rfl) ?_
        refine am_Y.weak (lv2 := [(0, .ref 0), (1, .ref 5), (2, .ref 129), (3, .int x3)]) rfl rfl ⟨rfl, rfl, rfl, rfl, trivial⟩ ?_
        exact t_law_279 N _ ih x3 M _ _ h
      replace h := (if_neg hc1).symm.trans h
      by_cases hc2 : ((S.2 (x3).toNatClampNeg) &&& (63 : Int32)) = (2 : Int32)
      · replace h := (if_pos hc2).symm.trans h
        refine am_Y.one (pc' := 342) (lv' := [(0, .ref 0), (1, .ref 5), (2, .ref 129), (3, .int x3)]) (st' := []) (h' := hp M) (am_swc hc2 rfl) ?_
        refine am_Y.weak (lv2 := [(0, .ref 0), (1, .ref 5), (2, .ref 129), (3, .int x3)]) rfl rfl ⟨rfl, rfl, rfl, rfl, trivial⟩ ?_
        exact t_law_342 N _ ih x3 M _ _ h
      replace h := (if_neg hc2).symm.trans h
      by_cases hc3 : ((S.2 (x3).toNatClampNeg) &&& (63 : Int32)) = (3 : Int32)
      · replace h := (if_pos hc3).symm.trans h
        refine am_Y.one (pc' := 365) (lv' := [(0, .ref 0), (1, .ref 5), (2, .ref 129), (3, .int x3)]) (st' := []) (h' := hp M) (am_swc hc3 rfl) ?_
        refine am_Y.weak (lv2 := [(0, .ref 0), (1, .ref 5), (2, .ref 129), (3, .int x3)]) rfl rfl ⟨rfl, rfl, rfl, rfl, trivial⟩ ?_
        exact t_law_365 N _ ih x3 M _ _ h
      replace h := (if_neg hc3).symm.trans h
      by_cases hc4 : ((S.2 (x3).toNatClampNeg) &&& (63 : Int32)) = (4 : Int32)
      · replace h := (if_pos hc4).symm.trans h
        refine am_Y.one (pc' := 378) (lv' := [(0, .ref 0), (1, .ref 5), (2, .ref 129), (3, .int x3)]) (st' := []) (h' := hp M) (am_swc hc4 rfl) ?_
        refine am_Y.weak (lv2 := [(0, .ref 0), (1, .ref 5), (2, .ref 129), (3, .int x3)]) rfl rfl ⟨rfl, rfl, rfl, rfl, trivial⟩ ?_
        exact t_law_378 N _ ih x3 M _ _ h
      replace h := (if_neg hc4).symm.trans h
      by_cases hc5 : ((S.2 (x3).toNatClampNeg) &&& (63 : Int32)) = (5 : Int32)
      · replace h := (if_pos hc5).symm.trans h
        refine am_Y.one (pc' := 401) (lv' := [(0, .ref 0), (1, .ref 5), (2, .ref 129), (3, .int x3)]) (st' := []) (h' := hp M) (am_swc hc5 rfl) ?_
        refine am_Y.weak (lv2 := [(0, .ref 0), (1, .ref 5), (2, .ref 129), (3, .int x3)]) rfl rfl ⟨rfl, rfl, rfl, rfl, trivial⟩ ?_
        exact t_law_401 N _ ih x3 M _ _ h
      replace h := (if_neg hc5).symm.trans h
      by_cases hc6 : ((S.2 (x3).toNatClampNeg) &&& (63 : Int32)) = (6 : Int32)
      · replace h := (if_pos hc6).symm.trans h
        refine am_Y.one (pc' := 424) (lv' := [(0, .ref 0), (1, .ref 5), (2, .ref 129), (3, .int x3)]) (st' := []) (h' := hp M) (am_swc hc6 rfl) ?_
        refine am_Y.weak (lv2 := [(0, .ref 0), (1, .ref 5), (2, .ref 129), (3, .int x3)]) rfl rfl ⟨rfl, rfl, rfl, rfl, trivial⟩ ?_
        exact t_law_424 N _ ih x3 M _ _ h
      replace h := (if_neg hc6).symm.trans h
      by_cases hc7 : ((S.2 (x3).toNatClampNeg) &&& (63 : Int32)) = (7 : Int32)
      · replace h := (if_pos hc7).symm.trans h
        refine am_Y.one (pc' := 457) (lv' := [(0, .ref 0), (1, .ref 5), (2, .ref 129), (3, .int x3)]) (st' := []) (h' := hp M) (am_swc hc7 rfl) ?_
        refine am_Y.weak (lv2 := [(0, .ref 0), (1, .ref 5), (2, .ref 129), (3, .int x3)]) rfl rfl ⟨rfl, rfl, rfl, rfl, trivial⟩ ?_
        exact t_law_457 N _ ih x3 M _ _ h
      replace h := (if_neg hc7).symm.trans h
      by_cases hc8 : ((S.2 (x3).toNatClampNeg) &&& (63 : Int32)) = (8 : Int32)
      · replace h := (if_pos hc8).symm.trans h
        refine am_Y.one (pc' := 470) (lv' := [(0, .ref 0), (1, .ref 5), (2, .ref 129), (3, .int x3)]) (st' := []) (h' := hp M) (am_swc hc8 rfl) ?_
        refine am_Y.weak (lv2 := [(0, .ref 0), (1, .ref 5), (2, .ref 129), (3, .int x3)]) rfl rfl ⟨rfl, rfl, rfl, rfl, trivial⟩ ?_
        exact t_law_470 N _ ih x3 M _ _ h
      replace h := (if_neg hc8).symm.trans h
      by_cases hc9 : ((S.2 (x3).toNatClampNeg) &&& (63 : Int32)) = (9 : Int32)
      · replace h := (if_pos hc9).symm.trans h
        refine am_Y.one (pc' := 493) (lv' := [(0, .ref 0), (1, .ref 5), (2, .ref 129), (3, .int x3)]) (st' := []) (h' := hp M) (am_swc hc9 rfl) ?_
        refine am_Y.weak (lv2 := [(0, .ref 0), (1, .ref 5), (2, .ref 129), (3, .int x3)]) rfl rfl ⟨rfl, rfl, rfl, rfl, trivial⟩ ?_
        exact t_law_493 N _ ih x3 M _ _ h
      replace h := (if_neg hc9).symm.trans h
      by_cases hc10 : ((S.2 (x3).toNatClampNeg) &&& (63 : Int32)) = (10 : Int32)
      · replace h := (if_pos hc10).symm.trans h
        refine am_Y.one (pc' := 516) (lv' := [(0, .ref 0), (1, .ref 5), (2, .ref 129), (3, .int x3)]) (st' := []) (h' := hp M) (am_swc hc10 rfl) ?_
        refine am_Y.weak (lv2 := [(0, .ref 0), (1, .ref 5), (2, .ref 129), (3, .int x3)]) rfl rfl ⟨rfl, rfl, rfl, rfl, trivial⟩ ?_
        exact t_law_516 N _ ih x3 M _ _ h
      replace h := (if_neg hc10).symm.trans h
      by_cases hc11 : ((S.2 (x3).toNatClampNeg) &&& (63 : Int32)) = (11 : Int32)
      · replace h := (if_pos hc11).symm.trans h
        refine am_Y.one (pc' := 529) (lv' := [(0, .ref 0), (1, .ref 5), (2, .ref 129), (3, .int x3)]) (st' := []) (h' := hp M) (am_swc hc11 rfl) ?_
        refine am_Y.weak (lv2 := [(0, .ref 0), (1, .ref 5), (2, .ref 129), (3, .int x3)]) rfl rfl ⟨rfl, rfl, rfl, rfl, trivial⟩ ?_
        exact t_law_529 N _ ih x3 M _ _ h
      replace h := (if_neg hc11).symm.trans h
      by_cases hc12 : ((S.2 (x3).toNatClampNeg) &&& (63 : Int32)) = (12 : Int32)
      · replace h := (if_pos hc12).symm.trans h
        refine am_Y.one (pc' := 552) (lv' := [(0, .ref 0), (1, .ref 5), (2, .ref 129), (3, .int x3)]) (st' := []) (h' := hp M) (am_swc hc12 rfl) ?_
        refine am_Y.weak (lv2 := [(0, .ref 0), (1, .ref 5), (2, .ref 129), (3, .int x3)]) rfl rfl ⟨rfl, rfl, rfl, rfl, trivial⟩ ?_
        exact t_law_552 N _ ih x3 M _ _ h
      replace h := (if_neg hc12).symm.trans h
      by_cases hc13 : ((S.2 (x3).toNatClampNeg) &&& (63 : Int32)) = (13 : Int32)
      · replace h := (if_pos hc13).symm.trans h
        refine am_Y.one (pc' := 585) (lv' := [(0, .ref 0), (1, .ref 5), (2, .ref 129), (3, .int x3)]) (st' := []) (h' := hp M) (am_swc hc13 rfl) ?_
        refine am_Y.weak (lv2 := [(0, .ref 0), (1, .ref 5), (2, .ref 129), (3, .int x3)]) rfl rfl ⟨rfl, rfl, rfl, rfl, trivial⟩ ?_
        exact t_law_585 N _ ih x3 M _ _ h
      replace h := (if_neg hc13).symm.trans h
      by_cases hc14 : ((S.2 (x3).toNatClampNeg) &&& (63 : Int32)) = (14 : Int32)
      · replace h := (if_pos hc14).symm.trans h
        refine am_Y.one (pc' := 598) (lv' := [(0, .ref 0), (1, .ref 5), (2, .ref 129), (3, .int x3)]) (st' := []) (h' := hp M) (am_swc hc14 rfl) ?_
        refine am_Y.weak (lv2 := [(0, .ref 0), (1, .ref 5), (2, .ref 129), (3, .int x3)]) rfl rfl ⟨rfl, rfl, rfl, rfl, trivial⟩ ?_
        exact t_law_598 N _ ih x3 M _ _ h
      replace h := (if_neg hc14).symm.trans h
      by_cases hc15 : ((S.2 (x3).toNatClampNeg) &&& (63 : Int32)) = (15 : Int32)
      · replace h := (if_pos hc15).symm.trans h
        refine am_Y.one (pc' := 631) (lv' := [(0, .ref 0), (1, .ref 5), (2, .ref 129), (3, .int x3)]) (st' := []) (h' := hp M) (am_swc hc15 rfl) ?_
        refine am_Y.weak (lv2 := [(0, .ref 0), (1, .ref 5), (2, .ref 129), (3, .int x3)]) rfl rfl ⟨rfl, rfl, rfl, rfl, trivial⟩ ?_
        exact t_law_631 N _ ih x3 M _ _ h
      replace h := (if_neg hc15).symm.trans h
      by_cases hc16 : ((S.2 (x3).toNatClampNeg) &&& (63 : Int32)) = (16 : Int32)
      · replace h := (if_pos hc16).symm.trans h
        refine am_Y.one (pc' := 670) (lv' := [(0, .ref 0), (1, .ref 5), (2, .ref 129), (3, .int x3)]) (st' := []) (h' := hp M) (am_swc hc16 rfl) ?_
        refine am_Y.weak (lv2 := [(0, .ref 0), (1, .ref 5), (2, .ref 129), (3, .int x3)]) rfl rfl ⟨rfl, rfl, rfl, rfl, trivial⟩ ?_
        exact t_law_670 N _ ih x3 M _ _ h
      replace h := (if_neg hc16).symm.trans h
      by_cases hc17 : ((S.2 (x3).toNatClampNeg) &&& (63 : Int32)) = (17 : Int32)
      · replace h := (if_pos hc17).symm.trans h
        refine am_Y.one (pc' := 703) (lv' := [(0, .ref 0), (1, .ref 5), (2, .ref 129), (3, .int x3)]) (st' := []) (h' := hp M) (am_swc hc17 rfl) ?_
        refine am_Y.weak (lv2 := [(0, .ref 0), (1, .ref 5), (2, .ref 129), (3, .int x3)]) rfl rfl ⟨rfl, rfl, rfl, rfl, trivial⟩ ?_
        exact t_law_703 N _ ih x3 M _ _ h
      replace h := (if_neg hc17).symm.trans h
      by_cases hc18 : ((S.2 (x3).toNatClampNeg) &&& (63 : Int32)) = (18 : Int32)
      · replace h := (if_pos hc18).symm.trans h
        refine am_Y.one (pc' := 736) (lv' := [(0, .ref 0), (1, .ref 5), (2, .ref 129), (3, .int x3)]) (st' := []) (h' := hp M) (am_swc hc18 rfl) ?_
        refine am_Y.weak (lv2 := [(0, .ref 0), (1, .ref 5), (2, .ref 129), (3, .int x3)]) rfl rfl ⟨rfl, rfl, rfl, rfl, trivial⟩ ?_
        exact t_law_736 N _ ih x3 M _ _ h
      replace h := (if_neg hc18).symm.trans h
      by_cases hc19 : ((S.2 (x3).toNatClampNeg) &&& (63 : Int32)) = (19 : Int32)
      · replace h := (if_pos hc19).symm.trans h
        refine am_Y.one (pc' := 796) (lv' := [(0, .ref 0), (1, .ref 5), (2, .ref 129), (3, .int x3)]) (st' := []) (h' := hp M) (am_swc hc19 rfl) ?_
        refine am_Y.weak (lv2 := [(0, .ref 0), (1, .ref 5), (2, .ref 129), (3, .int x3)]) rfl rfl ⟨rfl, rfl, rfl, rfl, trivial⟩ ?_
        exact t_law_796 N _ ih x3 M _ _ h
      replace h := (if_neg hc19).symm.trans h
      by_cases hc20 : ((S.2 (x3).toNatClampNeg) &&& (63 : Int32)) = (20 : Int32)
      · replace h := (if_pos hc20).symm.trans h
        refine am_Y.one (pc' := 846) (lv' := [(0, .ref 0), (1, .ref 5), (2, .ref 129), (3, .int x3)]) (st' := []) (h' := hp M) (am_swc hc20 rfl) ?_
        refine am_Y.weak (lv2 := [(0, .ref 0), (1, .ref 5), (2, .ref 129), (3, .int x3)]) rfl rfl ⟨rfl, rfl, rfl, rfl, trivial⟩ ?_
        exact t_law_846 N _ ih x3 M _ _ h
      replace h := (if_neg hc20).symm.trans h
      by_cases hc21 : ((S.2 (x3).toNatClampNeg) &&& (63 : Int32)) = (21 : Int32)
      · replace h := (if_pos hc21).symm.trans h
        refine am_Y.one (pc' := 916) (lv' := [(0, .ref 0), (1, .ref 5), (2, .ref 129), (3, .int x3)]) (st' := []) (h' := hp M) (am_swc hc21 rfl) ?_
        refine am_Y.weak (lv2 := [(0, .ref 0), (1, .ref 5), (2, .ref 129), (3, .int x3)]) rfl rfl ⟨rfl, rfl, rfl, rfl, trivial⟩ ?_
        exact t_law_916 N _ ih x3 M _ _ h
      replace h := (if_neg hc21).symm.trans h
      by_cases hc22 : ((S.2 (x3).toNatClampNeg) &&& (63 : Int32)) = (22 : Int32)
      · replace h := (if_pos hc22).symm.trans h
        refine am_Y.one (pc' := 965) (lv' := [(0, .ref 0), (1, .ref 5), (2, .ref 129), (3, .int x3)]) (st' := []) (h' := hp M) (am_swc hc22 rfl) ?_
        refine am_Y.weak (lv2 := [(0, .ref 0), (1, .ref 5), (2, .ref 129), (3, .int x3)]) rfl rfl ⟨rfl, rfl, rfl, rfl, trivial⟩ ?_
        exact t_law_965 N _ ih x3 M _ _ h
      replace h := (if_neg hc22).symm.trans h
      by_cases hc23 : ((S.2 (x3).toNatClampNeg) &&& (63 : Int32)) = (23 : Int32)
      · replace h := (if_pos hc23).symm.trans h
        refine am_Y.one (pc' := 1004) (lv' := [(0, .ref 0), (1, .ref 5), (2, .ref 129), (3, .int x3)]) (st' := []) (h' := hp M) (am_swc hc23 rfl) ?_
        refine am_Y.weak (lv2 := [(0, .ref 0), (1, .ref 5), (2, .ref 129), (3, .int x3)]) rfl rfl ⟨rfl, rfl, rfl, rfl, trivial⟩ ?_
        exact t_law_1004 N _ ih x3 M _ _ h
      replace h := (if_neg hc23).symm.trans h
      by_cases hc24 : ((S.2 (x3).toNatClampNeg) &&& (63 : Int32)) = (24 : Int32)
      · replace h := (if_pos hc24).symm.trans h
        refine am_Y.one (pc' := 1027) (lv' := [(0, .ref 0), (1, .ref 5), (2, .ref 129), (3, .int x3)]) (st' := []) (h' := hp M) (am_swc hc24 rfl) ?_
        refine am_Y.weak (lv2 := [(0, .ref 0), (1, .ref 5), (2, .ref 129), (3, .int x3)]) rfl rfl ⟨rfl, rfl, rfl, rfl, trivial⟩ ?_
        exact t_law_1027 N _ ih x3 M _ _ h
      replace h := (if_neg hc24).symm.trans h
      by_cases hc25 : ((S.2 (x3).toNatClampNeg) &&& (63 : Int32)) = (25 : Int32)
      · replace h := (if_pos hc25).symm.trans h
        refine am_Y.one (pc' := 1060) (lv' := [(0, .ref 0), (1, .ref 5), (2, .ref 129), (3, .int x3)]) (st' := []) (h' := hp M) (am_swc hc25 rfl) ?_
        refine am_Y.weak (lv2 := [(0, .ref 0), (1, .ref 5), (2, .ref 129), (3, .int x3)]) rfl rfl ⟨rfl, rfl, rfl, rfl, trivial⟩ ?_
        exact t_law_1060 N _ ih x3 M _ _ h
      replace h := (if_neg hc25).symm.trans h
      by_cases hc26 : ((S.2 (x3).toNatClampNeg) &&& (63 : Int32)) = (26 : Int32)
      · replace h := (if_pos hc26).symm.trans h
        refine am_Y.one (pc' := 1113) (lv' := [(0, .ref 0), (1, .ref 5), (2, .ref 129), (3, .int x3)]) (st' := []) (h' := hp M) (am_swc hc26 rfl) ?_
        refine am_Y.weak (lv2 := [(0, .ref 0), (1, .ref 5), (2, .ref 129), (3, .int x3)]) rfl rfl ⟨rfl, rfl, rfl, rfl, trivial⟩ ?_
        exact t_law_1113 N _ ih x3 M _ _ h
      replace h := (if_neg hc26).symm.trans h
      by_cases hc27 : ((S.2 (x3).toNatClampNeg) &&& (63 : Int32)) = (27 : Int32)
      · replace h := (if_pos hc27).symm.trans h
        refine am_Y.one (pc' := 1136) (lv' := [(0, .ref 0), (1, .ref 5), (2, .ref 129), (3, .int x3)]) (st' := []) (h' := hp M) (am_swc hc27 rfl) ?_
        refine am_Y.weak (lv2 := [(0, .ref 0), (1, .ref 5), (2, .ref 129), (3, .int x3)]) rfl rfl ⟨rfl, rfl, rfl, rfl, trivial⟩ ?_
        exact t_law_1136 N _ ih x3 M _ _ h
      replace h := (if_neg hc27).symm.trans h
      by_cases hc28 : ((S.2 (x3).toNatClampNeg) &&& (63 : Int32)) = (28 : Int32)
      · replace h := (if_pos hc28).symm.trans h
        refine am_Y.one (pc' := 1149) (lv' := [(0, .ref 0), (1, .ref 5), (2, .ref 129), (3, .int x3)]) (st' := []) (h' := hp M) (am_swc hc28 rfl) ?_
        refine am_Y.weak (lv2 := [(0, .ref 0), (1, .ref 5), (2, .ref 129), (3, .int x3)]) rfl rfl ⟨rfl, rfl, rfl, rfl, trivial⟩ ?_
        exact t_law_1149 N _ ih x3 M _ _ h
      replace h := (if_neg hc28).symm.trans h
      by_cases hc29 : ((S.2 (x3).toNatClampNeg) &&& (63 : Int32)) = (29 : Int32)
      · replace h := (if_pos hc29).symm.trans h
        refine am_Y.one (pc' := 1172) (lv' := [(0, .ref 0), (1, .ref 5), (2, .ref 129), (3, .int x3)]) (st' := []) (h' := hp M) (am_swc hc29 rfl) ?_
        refine am_Y.weak (lv2 := [(0, .ref 0), (1, .ref 5), (2, .ref 129), (3, .int x3)]) rfl rfl ⟨rfl, rfl, rfl, rfl, trivial⟩ ?_
        exact t_law_1172 N _ ih x3 M _ _ h
      replace h := (if_neg hc29).symm.trans h
      by_cases hc30 : ((S.2 (x3).toNatClampNeg) &&& (63 : Int32)) = (30 : Int32)
      · replace h := (if_pos hc30).symm.trans h
        refine am_Y.one (pc' := 1205) (lv' := [(0, .ref 0), (1, .ref 5), (2, .ref 129), (3, .int x3)]) (st' := []) (h' := hp M) (am_swc hc30 rfl) ?_
        refine am_Y.weak (lv2 := [(0, .ref 0), (1, .ref 5), (2, .ref 129), (3, .int x3)]) rfl rfl ⟨rfl, rfl, rfl, rfl, trivial⟩ ?_
        exact t_law_1205 N _ ih x3 M _ _ h
      replace h := (if_neg hc30).symm.trans h
      by_cases hc31 : ((S.2 (x3).toNatClampNeg) &&& (63 : Int32)) = (31 : Int32)
      · replace h := (if_pos hc31).symm.trans h
        refine am_Y.one (pc' := 1244) (lv' := [(0, .ref 0), (1, .ref 5), (2, .ref 129), (3, .int x3)]) (st' := []) (h' := hp M) (am_swc hc31 rfl) ?_
        refine am_Y.weak (lv2 := [(0, .ref 0), (1, .ref 5), (2, .ref 129), (3, .int x3)]) rfl rfl ⟨rfl, rfl, rfl, rfl, trivial⟩ ?_
        exact t_law_1244 N _ ih x3 M _ _ h
      replace h := (if_neg hc31).symm.trans h
      by_cases hc32 : ((S.2 (x3).toNatClampNeg) &&& (63 : Int32)) = (32 : Int32)
      · replace h := (if_pos hc32).symm.trans h
        refine am_Y.one (pc' := 1267) (lv' := [(0, .ref 0), (1, .ref 5), (2, .ref 129), (3, .int x3)]) (st' := []) (h' := hp M) (am_swc hc32 rfl) ?_
        refine am_Y.weak (lv2 := [(0, .ref 0), (1, .ref 5), (2, .ref 129), (3, .int x3)]) rfl rfl ⟨rfl, rfl, rfl, rfl, trivial⟩ ?_
        exact t_law_1267 N _ ih x3 M _ _ h
      replace h := (if_neg hc32).symm.trans h
      by_cases hc33 : ((S.2 (x3).toNatClampNeg) &&& (63 : Int32)) = (33 : Int32)
      · replace h := (if_pos hc33).symm.trans h
        refine am_Y.one (pc' := 1290) (lv' := [(0, .ref 0), (1, .ref 5), (2, .ref 129), (3, .int x3)]) (st' := []) (h' := hp M) (am_swc hc33 rfl) ?_
        refine am_Y.weak (lv2 := [(0, .ref 0), (1, .ref 5), (2, .ref 129), (3, .int x3)]) rfl rfl ⟨rfl, rfl, rfl, rfl, trivial⟩ ?_
        exact t_law_1290 N _ ih x3 M _ _ h
      replace h := (if_neg hc33).symm.trans h
      by_cases hc34 : ((S.2 (x3).toNatClampNeg) &&& (63 : Int32)) = (34 : Int32)
      · replace h := (if_pos hc34).symm.trans h
        refine am_Y.one (pc' := 1323) (lv' := [(0, .ref 0), (1, .ref 5), (2, .ref 129), (3, .int x3)]) (st' := []) (h' := hp M) (am_swc hc34 rfl) ?_
        refine am_Y.weak (lv2 := [(0, .ref 0), (1, .ref 5), (2, .ref 129), (3, .int x3)]) rfl rfl ⟨rfl, rfl, rfl, rfl, trivial⟩ ?_
        exact t_law_1323 N _ ih x3 M _ _ h
      replace h := (if_neg hc34).symm.trans h
      by_cases hc35 : ((S.2 (x3).toNatClampNeg) &&& (63 : Int32)) = (35 : Int32)
      · replace h := (if_pos hc35).symm.trans h
        refine am_Y.one (pc' := 1356) (lv' := [(0, .ref 0), (1, .ref 5), (2, .ref 129), (3, .int x3)]) (st' := []) (h' := hp M) (am_swc hc35 rfl) ?_
        refine am_Y.weak (lv2 := [(0, .ref 0), (1, .ref 5), (2, .ref 129), (3, .int x3)]) rfl rfl ⟨rfl, rfl, rfl, rfl, trivial⟩ ?_
        exact t_law_1356 N _ ih x3 M _ _ h
      replace h := (if_neg hc35).symm.trans h
      by_cases hc36 : ((S.2 (x3).toNatClampNeg) &&& (63 : Int32)) = (36 : Int32)
      · replace h := (if_pos hc36).symm.trans h
        refine am_Y.one (pc' := 1379) (lv' := [(0, .ref 0), (1, .ref 5), (2, .ref 129), (3, .int x3)]) (st' := []) (h' := hp M) (am_swc hc36 rfl) ?_
        refine am_Y.weak (lv2 := [(0, .ref 0), (1, .ref 5), (2, .ref 129), (3, .int x3)]) rfl rfl ⟨rfl, rfl, rfl, rfl, trivial⟩ ?_
        exact t_law_1379 N _ ih x3 M _ _ h
      replace h := (if_neg hc36).symm.trans h
      by_cases hc37 : ((S.2 (x3).toNatClampNeg) &&& (63 : Int32)) = (37 : Int32)
      · replace h := (if_pos hc37).symm.trans h
        refine am_Y.one (pc' := 1392) (lv' := [(0, .ref 0), (1, .ref 5), (2, .ref 129), (3, .int x3)]) (st' := []) (h' := hp M) (am_swc hc37 rfl) ?_
        refine am_Y.weak (lv2 := [(0, .ref 0), (1, .ref 5), (2, .ref 129), (3, .int x3)]) rfl rfl ⟨rfl, rfl, rfl, rfl, trivial⟩ ?_
        exact t_law_1392 N _ ih x3 M _ _ h
      replace h := (if_neg hc37).symm.trans h
      by_cases hc38 : ((S.2 (x3).toNatClampNeg) &&& (63 : Int32)) = (38 : Int32)
      · replace h := (if_pos hc38).symm.trans h
        refine am_Y.one (pc' := 1435) (lv' := [(0, .ref 0), (1, .ref 5), (2, .ref 129), (3, .int x3)]) (st' := []) (h' := hp M) (am_swc hc38 rfl) ?_
        refine am_Y.weak (lv2 := [(0, .ref 0), (1, .ref 5), (2, .ref 129), (3, .int x3)]) rfl rfl ⟨rfl, rfl, rfl, rfl, trivial⟩ ?_
        exact t_law_1435 N _ ih x3 M _ _ h
      replace h := (if_neg hc38).symm.trans h
      by_cases hc39 : ((S.2 (x3).toNatClampNeg) &&& (63 : Int32)) = (39 : Int32)
      · replace h := (if_pos hc39).symm.trans h
        refine am_Y.one (pc' := 1468) (lv' := [(0, .ref 0), (1, .ref 5), (2, .ref 129), (3, .int x3)]) (st' := []) (h' := hp M) (am_swc hc39 rfl) ?_
        refine am_Y.weak (lv2 := [(0, .ref 0), (1, .ref 5), (2, .ref 129), (3, .int x3)]) rfl rfl ⟨rfl, rfl, rfl, rfl, trivial⟩ ?_
        exact t_law_1468 N _ ih x3 M _ _ h
      replace h := (if_neg hc39).symm.trans h
      by_cases hc40 : ((S.2 (x3).toNatClampNeg) &&& (63 : Int32)) = (40 : Int32)
      · replace h := (if_pos hc40).symm.trans h
        refine am_Y.one (pc' := 1522) (lv' := [(0, .ref 0), (1, .ref 5), (2, .ref 129), (3, .int x3)]) (st' := []) (h' := hp M) (am_swc hc40 rfl) ?_
        refine am_Y.weak (lv2 := [(0, .ref 0), (1, .ref 5), (2, .ref 129), (3, .int x3)]) rfl rfl ⟨rfl, rfl, rfl, rfl, trivial⟩ ?_
        exact t_law_1522 N _ ih x3 M _ _ h
      replace h := (if_neg hc40).symm.trans h
      by_cases hc41 : ((S.2 (x3).toNatClampNeg) &&& (63 : Int32)) = (41 : Int32)
      · replace h := (if_pos hc41).symm.trans h
        refine am_Y.one (pc' := 1586) (lv' := [(0, .ref 0), (1, .ref 5), (2, .ref 129), (3, .int x3)]) (st' := []) (h' := hp M) (am_swc hc41 rfl) ?_
        refine am_Y.weak (lv2 := [(0, .ref 0), (1, .ref 5), (2, .ref 129), (3, .int x3)]) rfl rfl ⟨rfl, rfl, rfl, rfl, trivial⟩ ?_
        exact t_law_1586 N _ ih x3 M _ _ h
      replace h := (if_neg hc41).symm.trans h
      by_cases hc42 : ((S.2 (x3).toNatClampNeg) &&& (63 : Int32)) = (42 : Int32)
      · replace h := (if_pos hc42).symm.trans h
        refine am_Y.one (pc' := 1639) (lv' := [(0, .ref 0), (1, .ref 5), (2, .ref 129), (3, .int x3)]) (st' := []) (h' := hp M) (am_swc hc42 rfl) ?_
        refine am_Y.weak (lv2 := [(0, .ref 0), (1, .ref 5), (2, .ref 129), (3, .int x3)]) rfl rfl ⟨rfl, rfl, rfl, rfl, trivial⟩ ?_
        exact t_law_1639 N _ ih x3 M _ _ h
      replace h := (if_neg hc42).symm.trans h
      by_cases hc43 : ((S.2 (x3).toNatClampNeg) &&& (63 : Int32)) = (43 : Int32)
      · replace h := (if_pos hc43).symm.trans h
        refine am_Y.one (pc' := 1673) (lv' := [(0, .ref 0), (1, .ref 5), (2, .ref 129), (3, .int x3)]) (st' := []) (h' := hp M) (am_swc hc43 rfl) ?_
        refine am_Y.weak (lv2 := [(0, .ref 0), (1, .ref 5), (2, .ref 129), (3, .int x3)]) rfl rfl ⟨rfl, rfl, rfl, rfl, trivial⟩ ?_
        exact t_law_1673 N _ ih x3 M _ _ h
      replace h := (if_neg hc43).symm.trans h
      by_cases hc44 : ((S.2 (x3).toNatClampNeg) &&& (63 : Int32)) = (44 : Int32)
      · replace h := (if_pos hc44).symm.trans h
        refine am_Y.one (pc' := 1743) (lv' := [(0, .ref 0), (1, .ref 5), (2, .ref 129), (3, .int x3)]) (st' := []) (h' := hp M) (am_swc hc44 rfl) ?_
        refine am_Y.weak (lv2 := [(0, .ref 0), (1, .ref 5), (2, .ref 129), (3, .int x3)]) rfl rfl ⟨rfl, rfl, rfl, rfl, trivial⟩ ?_
        exact t_law_1743 N _ ih x3 M _ _ h
      replace h := (if_neg hc44).symm.trans h
      by_cases hc45 : ((S.2 (x3).toNatClampNeg) &&& (63 : Int32)) = (45 : Int32)
      · replace h := (if_pos hc45).symm.trans h
        refine am_Y.one (pc' := 1756) (lv' := [(0, .ref 0), (1, .ref 5), (2, .ref 129), (3, .int x3)]) (st' := []) (h' := hp M) (am_swc hc45 rfl) ?_
        refine am_Y.weak (lv2 := [(0, .ref 0), (1, .ref 5), (2, .ref 129), (3, .int x3)]) rfl rfl ⟨rfl, rfl, rfl, rfl, trivial⟩ ?_
        exact t_law_1756 N _ ih x3 M _ _ h
      replace h := (if_neg hc45).symm.trans h
      by_cases hc46 : ((S.2 (x3).toNatClampNeg) &&& (63 : Int32)) = (46 : Int32)
      · replace h := (if_pos hc46).symm.trans h
        refine am_Y.one (pc' := 1769) (lv' := [(0, .ref 0), (1, .ref 5), (2, .ref 129), (3, .int x3)]) (st' := []) (h' := hp M) (am_swc hc46 rfl) ?_
        refine am_Y.weak (lv2 := [(0, .ref 0), (1, .ref 5), (2, .ref 129), (3, .int x3)]) rfl rfl ⟨rfl, rfl, rfl, rfl, trivial⟩ ?_
        exact t_law_1769 N _ ih x3 M _ _ h
      replace h := (if_neg hc46).symm.trans h
      refine am_Y.one (pc' := 1792) (lv' := [(0, .ref 0), (1, .ref 5), (2, .ref 129), (3, .int x3)]) (st' := []) (h' := hp M) (am_swd (x := ((S.2 (x3).toNatClampNeg) &&& (63 : Int32))) rfl (by have := am_neT (0) hc0 (by decide); have := am_neT (1) hc1 (by decide); have := am_neT (2) hc2 (by decide); have := am_neT (3) hc3 (by decide); have := am_neT (4) hc4 (by decide); have := am_neT (5) hc5 (by decide); have := am_neT (6) hc6 (by decide); have := am_neT (7) hc7 (by decide); have := am_neT (8) hc8 (by decide); have := am_neT (9) hc9 (by decide); have := am_neT (10) hc10 (by decide); have := am_neT (11) hc11 (by decide); have := am_neT (12) hc12 (by decide); have := am_neT (13) hc13 (by decide); have := am_neT (14) hc14 (by decide); have := am_neT (15) hc15 (by decide); have := am_neT (16) hc16 (by decide); have := am_neT (17) hc17 (by decide); have := am_neT (18) hc18 (by decide); have := am_neT (19) hc19 (by decide); have := am_neT (20) hc20 (by decide); have := am_neT (21) hc21 (by decide); have := am_neT (22) hc22 (by decide); have := am_neT (23) hc23 (by decide); have := am_neT (24) hc24 (by decide); have := am_neT (25) hc25 (by decide); have := am_neT (26) hc26 (by decide); have := am_neT (27) hc27 (by decide); have := am_neT (28) hc28 (by decide); have := am_neT (29) hc29 (by decide); have := am_neT (30) hc30 (by decide); have := am_neT (31) hc31 (by decide); have := am_neT (32) hc32 (by decide); have := am_neT (33) hc33 (by decide); have := am_neT (34) hc34 (by decide); have := am_neT (35) hc35 (by decide); have := am_neT (36) hc36 (by decide); have := am_neT (37) hc37 (by decide); have := am_neT (38) hc38 (by decide); have := am_neT (39) hc39 (by decide); have := am_neT (40) hc40 (by decide); have := am_neT (41) hc41 (by decide); have := am_neT (42) hc42 (by decide); have := am_neT (43) hc43 (by decide); have := am_neT (44) hc44 (by decide); have := am_neT (45) hc45 (by decide); have := am_neT (46) hc46 (by decide); omega) rfl) ?_
      refine am_Y.run (k := 2) (pc' := 18) (lv' := [(3, .int (x3 + (6 : Int32))), (0, .ref 0), (1, .ref 5), (2, .ref 129)]) (st' := []) (h' := hp M) rfl ?_
      refine am_Y.weak (lv2 := [(0, .ref 0), (1, .ref 5), (2, .ref 129), (3, .int (x3 + (6 : Int32)))]) rfl rfl ⟨rfl, rfl, rfl, rfl, trivial⟩ ?_
      exact ih (x3 + (6 : Int32)) M _ _ h
