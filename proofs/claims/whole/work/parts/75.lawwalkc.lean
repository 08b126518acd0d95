/-! AM does the law as the function says. -/
set_option maxRecDepth 100000 in
theorem t_law_1004 {S : Nat × (Nat → Int32)} (N : Nat) (K18 : Int32 → Mem → Option (Int32 × Mem)) (hK18 : ∀ (x3 : Int32) (M : Mem) (r : Int32) (M' : Mem), K18 x3 M = some (r, M') → am_Y S 68 0 0 am_ML 18 [(0, .ref 0), (1, .ref 5), (2, .ref 129), (3, .int x3)] [] (hp M) (some (.int r)) (hp M')) (x3 : Int32) (M : Mem) (r : Int32) (M' : Mem) (h : f_law_1004 S N K18 x3 M = some (r, M')) : am_Y S 68 0 0 am_ML 1004 [(0, .ref 0), (1, .ref 5), (2, .ref 129), (3, .int x3)] [] (hp M) (some (.int r)) (hp M') := by
  rw [f_law_1004] at h
  refine am_Y.run (k := 5) (pc' := 1009) (lv' := [(0, .ref 0), (1, .ref 5), (2, .ref 129), (3, .int x3)]) (st' := [.int (x3 + (1 : Int32)), .ref 0, .ref 5]) (h' := hp M) rfl ?_
  obtain ⟨g, h⟩ := am_itg h
  refine am_Y.sald rfl g ?_
  obtain ⟨q55, e_q55, h⟩ := Option.bind_eq_some_iff.mp h
  refine am_Y.call0 (M' := am_M48) (as := [.ref 5, .int (S.2 ((x3 + (1 : Int32))).toNatClampNeg)]) (rest := []) (d' := 3) rfl (by omega) rfl rfl (t_w_which N (S.2 ((x3 + (1 : Int32))).toNatClampNeg) M q55 e_q55) ?_
  refine am_Y.run (k := 5) (pc' := 1018) (lv' := [(0, .ref 0), (1, .ref 5), (2, .ref 129), (3, .int x3)]) (st' := [.int (x3 + (1 : Int32)), .ref 0, .ref 129, .int q55]) (h' := hp M) rfl ?_
  obtain ⟨g, h⟩ := am_itg h
  refine am_Y.sald rfl g ?_
  obtain ⟨q56, e_q56, h⟩ := Option.bind_eq_some_iff.mp h
  refine am_Y.call0 (M' := am_M49) (as := [.ref 129, .int (S.2 ((x3 + (1 : Int32))).toNatClampNeg)]) (rest := [.int q55]) (d' := 3) rfl (by omega) rfl rfl (t_m_which N (S.2 ((x3 + (1 : Int32))).toNatClampNeg) M q56 e_q56) ?_
  refine am_Y.br (c := q55 = q56) _ (t := 1792) (u := 1025) (lv' := [(0, .ref 0), (1, .ref 5), (2, .ref 129), (3, .int x3)]) (st' := []) (h' := hp M) rfl (fun hc => ?_) (fun hc => ?_)
  · replace h := (if_pos hc).symm.trans h
    refine am_Y.run (k := 2) (pc' := 18) (lv' := [(3, .int (x3 + (6 : Int32))), (0, .ref 0), (1, .ref 5), (2, .ref 129)]) (st' := []) (h' := hp M) rfl ?_
    refine am_Y.weak (lv2 := [(0, .ref 0), (1, .ref 5), (2, .ref 129), (3, .int (x3 + (6 : Int32)))]) rfl rfl ⟨rfl, rfl, rfl, rfl, trivial⟩ ?_
    exact hK18 (x3 + (6 : Int32)) M _ _ h
  · replace h := (if_neg hc).symm.trans h
    refine am_Y.run (k := 1) (pc' := 1026) (lv' := [(0, .ref 0), (1, .ref 5), (2, .ref 129), (3, .int x3)]) (st' := [.int (0 : Int32)]) (h' := hp M) rfl ?_
    obtain ⟨rfl, rfl⟩ := Prod.mk.inj (Option.some.inj h)
    exact am_Y.ret rfl
set_option maxRecDepth 100000 in
theorem t_law_1027 {S : Nat × (Nat → Int32)} (N : Nat) (K18 : Int32 → Mem → Option (Int32 × Mem)) (hK18 : ∀ (x3 : Int32) (M : Mem) (r : Int32) (M' : Mem), K18 x3 M = some (r, M') → am_Y S 68 0 0 am_ML 18 [(0, .ref 0), (1, .ref 5), (2, .ref 129), (3, .int x3)] [] (hp M) (some (.int r)) (hp M')) (x3 : Int32) (M : Mem) (r : Int32) (M' : Mem) (h : f_law_1027 S N K18 x3 M = some (r, M')) : am_Y S 68 0 0 am_ML 1027 [(0, .ref 0), (1, .ref 5), (2, .ref 129), (3, .int x3)] [] (hp M) (some (.int r)) (hp M') := by
  rw [f_law_1027] at h
  refine am_Y.run (k := 5) (pc' := 1032) (lv' := [(0, .ref 0), (1, .ref 5), (2, .ref 129), (3, .int x3)]) (st' := [.int (x3 + (1 : Int32)), .ref 0, .ref 5]) (h' := hp M) rfl ?_
  obtain ⟨g, h⟩ := am_itg h
  refine am_Y.sald rfl g ?_
  refine am_Y.run (k := 4) (pc' := 1037) (lv' := [(0, .ref 0), (1, .ref 5), (2, .ref 129), (3, .int x3)]) (st' := [.int (x3 + (2 : Int32)), .ref 0, .int (S.2 ((x3 + (1 : Int32))).toNatClampNeg), .ref 5]) (h' := hp M) rfl ?_
  obtain ⟨g, h⟩ := am_itg h
  refine am_Y.sald rfl g ?_
  obtain ⟨q53, e_q53, h⟩ := Option.bind_eq_some_iff.mp h
  refine am_Y.call0 (M' := am_M50) (as := [.ref 5, .int (S.2 ((x3 + (1 : Int32))).toNatClampNeg), .int (S.2 ((x3 + (2 : Int32))).toNatClampNeg)]) (rest := []) (d' := 2) rfl (by omega) rfl rfl (t_w_whispered N (S.2 ((x3 + (1 : Int32))).toNatClampNeg) (S.2 ((x3 + (2 : Int32))).toNatClampNeg) M q53 e_q53) ?_
  refine am_Y.run (k := 5) (pc' := 1046) (lv' := [(0, .ref 0), (1, .ref 5), (2, .ref 129), (3, .int x3)]) (st' := [.int (x3 + (1 : Int32)), .ref 0, .ref 129, .int q53]) (h' := hp M) rfl ?_
  obtain ⟨g, h⟩ := am_itg h
  refine am_Y.sald rfl g ?_
  refine am_Y.run (k := 4) (pc' := 1051) (lv' := [(0, .ref 0), (1, .ref 5), (2, .ref 129), (3, .int x3)]) (st' := [.int (x3 + (2 : Int32)), .ref 0, .int (S.2 ((x3 + (1 : Int32))).toNatClampNeg), .ref 129, .int q53]) (h' := hp M) rfl ?_
  obtain ⟨g, h⟩ := am_itg h
  refine am_Y.sald rfl g ?_
  obtain ⟨q54, e_q54, h⟩ := Option.bind_eq_some_iff.mp h
  refine am_Y.call0 (M' := am_M51) (as := [.ref 129, .int (S.2 ((x3 + (1 : Int32))).toNatClampNeg), .int (S.2 ((x3 + (2 : Int32))).toNatClampNeg)]) (rest := [.int q53]) (d' := 4) rfl (by omega) rfl rfl (t_m_whispered N (S.2 ((x3 + (1 : Int32))).toNatClampNeg) (S.2 ((x3 + (2 : Int32))).toNatClampNeg) M q54.1 q54.2 e_q54) ?_
  refine am_Y.br (c := q53 = q54.1) _ (t := 1792) (u := 1058) (lv' := [(0, .ref 0), (1, .ref 5), (2, .ref 129), (3, .int x3)]) (st' := []) (h' := hp q54.2) rfl (fun hc => ?_) (fun hc => ?_)
  · replace h := (if_pos hc).symm.trans h
    refine am_Y.run (k := 2) (pc' := 18) (lv' := [(3, .int (x3 + (6 : Int32))), (0, .ref 0), (1, .ref 5), (2, .ref 129)]) (st' := []) (h' := hp q54.2) rfl ?_
    refine am_Y.weak (lv2 := [(0, .ref 0), (1, .ref 5), (2, .ref 129), (3, .int (x3 + (6 : Int32)))]) rfl rfl ⟨rfl, rfl, rfl, rfl, trivial⟩ ?_
    exact hK18 (x3 + (6 : Int32)) q54.2 _ _ h
  · replace h := (if_neg hc).symm.trans h
    refine am_Y.run (k := 1) (pc' := 1059) (lv' := [(0, .ref 0), (1, .ref 5), (2, .ref 129), (3, .int x3)]) (st' := [.int (0 : Int32)]) (h' := hp q54.2) rfl ?_
    obtain ⟨rfl, rfl⟩ := Prod.mk.inj (Option.some.inj h)
    exact am_Y.ret rfl
set_option maxRecDepth 100000 in
theorem t_law_1060 {S : Nat × (Nat → Int32)} (N : Nat) (K18 : Int32 → Mem → Option (Int32 × Mem)) (hK18 : ∀ (x3 : Int32) (M : Mem) (r : Int32) (M' : Mem), K18 x3 M = some (r, M') → am_Y S 68 0 0 am_ML 18 [(0, .ref 0), (1, .ref 5), (2, .ref 129), (3, .int x3)] [] (hp M) (some (.int r)) (hp M')) (x3 : Int32) (M : Mem) (r : Int32) (M' : Mem) (h : f_law_1060 S N K18 x3 M = some (r, M')) : am_Y S 68 0 0 am_ML 1060 [(0, .ref 0), (1, .ref 5), (2, .ref 129), (3, .int x3)] [] (hp M) (some (.int r)) (hp M') := by
  rw [f_law_1060] at h
  refine am_Y.run (k := 5) (pc' := 1065) (lv' := [(0, .ref 0), (1, .ref 5), (2, .ref 129), (3, .int x3)]) (st' := [.int (x3 + (1 : Int32)), .ref 0, .ref 5]) (h' := hp M) rfl ?_
  obtain ⟨g, h⟩ := am_itg h
  refine am_Y.sald rfl g ?_
  refine am_Y.run (k := 4) (pc' := 1070) (lv' := [(0, .ref 0), (1, .ref 5), (2, .ref 129), (3, .int x3)]) (st' := [.int (x3 + (2 : Int32)), .ref 0, .int (S.2 ((x3 + (1 : Int32))).toNatClampNeg), .ref 5]) (h' := hp M) rfl ?_
  obtain ⟨g, h⟩ := am_itg h
  refine am_Y.sald rfl g ?_
  refine am_Y.run (k := 4) (pc' := 1075) (lv' := [(0, .ref 0), (1, .ref 5), (2, .ref 129), (3, .int x3)]) (st' := [.int (x3 + (3 : Int32)), .ref 0, .int (S.2 ((x3 + (2 : Int32))).toNatClampNeg), .int (S.2 ((x3 + (1 : Int32))).toNatClampNeg), .ref 5]) (h' := hp M) rfl ?_
  obtain ⟨g, h⟩ := am_itg h
  refine am_Y.sald rfl g ?_
  refine am_Y.run (k := 4) (pc' := 1080) (lv' := [(0, .ref 0), (1, .ref 5), (2, .ref 129), (3, .int x3)]) (st' := [.int (x3 + (4 : Int32)), .ref 0, .int (S.2 ((x3 + (3 : Int32))).toNatClampNeg), .int (S.2 ((x3 + (2 : Int32))).toNatClampNeg), .int (S.2 ((x3 + (1 : Int32))).toNatClampNeg), .ref 5]) (h' := hp M) rfl ?_
  obtain ⟨g, h⟩ := am_itg h
  refine am_Y.sald rfl g ?_
  obtain ⟨q51, e_q51, h⟩ := Option.bind_eq_some_iff.mp h
  refine am_Y.call0 (M' := am_M52) (as := [.ref 5, .int (S.2 ((x3 + (1 : Int32))).toNatClampNeg), .int (S.2 ((x3 + (2 : Int32))).toNatClampNeg), .int (S.2 ((x3 + (3 : Int32))).toNatClampNeg), .int (S.2 ((x3 + (4 : Int32))).toNatClampNeg)]) (rest := []) (d' := 2) rfl (by omega) rfl rfl (t_w_twoWhispered N (S.2 ((x3 + (1 : Int32))).toNatClampNeg) (S.2 ((x3 + (2 : Int32))).toNatClampNeg) (S.2 ((x3 + (3 : Int32))).toNatClampNeg) (S.2 ((x3 + (4 : Int32))).toNatClampNeg) M q51 e_q51) ?_
  refine am_Y.run (k := 5) (pc' := 1089) (lv' := [(0, .ref 0), (1, .ref 5), (2, .ref 129), (3, .int x3)]) (st' := [.int (x3 + (1 : Int32)), .ref 0, .ref 129, .int q51]) (h' := hp M) rfl ?_
  obtain ⟨g, h⟩ := am_itg h
  refine am_Y.sald rfl g ?_
  refine am_Y.run (k := 4) (pc' := 1094) (lv' := [(0, .ref 0), (1, .ref 5), (2, .ref 129), (3, .int x3)]) (st' := [.int (x3 + (2 : Int32)), .ref 0, .int (S.2 ((x3 + (1 : Int32))).toNatClampNeg), .ref 129, .int q51]) (h' := hp M) rfl ?_
  obtain ⟨g, h⟩ := am_itg h
  refine am_Y.sald rfl g ?_
  refine am_Y.run (k := 4) (pc' := 1099) (lv' := [(0, .ref 0), (1, .ref 5), (2, .ref 129), (3, .int x3)]) (st' := [.int (x3 + (3 : Int32)), .ref 0, .int (S.2 ((x3 + (2 : Int32))).toNatClampNeg), .int (S.2 ((x3 + (1 : Int32))).toNatClampNeg), .ref 129, .int q51]) (h' := hp M) rfl ?_
  obtain ⟨g, h⟩ := am_itg h
  refine am_Y.sald rfl g ?_
  refine am_Y.run (k := 4) (pc' := 1104) (lv' := [(0, .ref 0), (1, .ref 5), (2, .ref 129), (3, .int x3)]) (st' := [.int (x3 + (4 : Int32)), .ref 0, .int (S.2 ((x3 + (3 : Int32))).toNatClampNeg), .int (S.2 ((x3 + (2 : Int32))).toNatClampNeg), .int (S.2 ((x3 + (1 : Int32))).toNatClampNeg), .ref 129, .int q51]) (h' := hp M) rfl ?_
  obtain ⟨g, h⟩ := am_itg h
  refine am_Y.sald rfl g ?_
  obtain ⟨q52, e_q52, h⟩ := Option.bind_eq_some_iff.mp h
  refine am_Y.call0 (M' := am_M53) (as := [.ref 129, .int (S.2 ((x3 + (1 : Int32))).toNatClampNeg), .int (S.2 ((x3 + (2 : Int32))).toNatClampNeg), .int (S.2 ((x3 + (3 : Int32))).toNatClampNeg), .int (S.2 ((x3 + (4 : Int32))).toNatClampNeg)]) (rest := [.int q51]) (d' := 4) rfl (by omega) rfl rfl (t_m_twoWhispered N (S.2 ((x3 + (1 : Int32))).toNatClampNeg) (S.2 ((x3 + (2 : Int32))).toNatClampNeg) (S.2 ((x3 + (3 : Int32))).toNatClampNeg) (S.2 ((x3 + (4 : Int32))).toNatClampNeg) M q52.1 q52.2 e_q52) ?_
  refine am_Y.br (c := q51 = q52.1) _ (t := 1792) (u := 1111) (lv' := [(0, .ref 0), (1, .ref 5), (2, .ref 129), (3, .int x3)]) (st' := []) (h' := hp q52.2) rfl (fun hc => ?_) (fun hc => ?_)
  · replace h := (if_pos hc).symm.trans h
    refine am_Y.run (k := 2) (pc' := 18) (lv' := [(3, .int (x3 + (6 : Int32))), (0, .ref 0), (1, .ref 5), (2, .ref 129)]) (st' := []) (h' := hp q52.2) rfl ?_
    refine am_Y.weak (lv2 := [(0, .ref 0), (1, .ref 5), (2, .ref 129), (3, .int (x3 + (6 : Int32)))]) rfl rfl ⟨rfl, rfl, rfl, rfl, trivial⟩ ?_
    exact hK18 (x3 + (6 : Int32)) q52.2 _ _ h
  · replace h := (if_neg hc).symm.trans h
    refine am_Y.run (k := 1) (pc' := 1112) (lv' := [(0, .ref 0), (1, .ref 5), (2, .ref 129), (3, .int x3)]) (st' := [.int (0 : Int32)]) (h' := hp q52.2) rfl ?_
    obtain ⟨rfl, rfl⟩ := Prod.mk.inj (Option.some.inj h)
    exact am_Y.ret rfl
set_option maxRecDepth 100000 in
theorem t_law_1113 {S : Nat × (Nat → Int32)} (N : Nat) (K18 : Int32 → Mem → Option (Int32 × Mem)) (hK18 : ∀ (x3 : Int32) (M : Mem) (r : Int32) (M' : Mem), K18 x3 M = some (r, M') → am_Y S 68 0 0 am_ML 18 [(0, .ref 0), (1, .ref 5), (2, .ref 129), (3, .int x3)] [] (hp M) (some (.int r)) (hp M')) (x3 : Int32) (M : Mem) (r : Int32) (M' : Mem) (h : f_law_1113 S N K18 x3 M = some (r, M')) : am_Y S 68 0 0 am_ML 1113 [(0, .ref 0), (1, .ref 5), (2, .ref 129), (3, .int x3)] [] (hp M) (some (.int r)) (hp M') := by
  rw [f_law_1113] at h
  refine am_Y.run (k := 5) (pc' := 1118) (lv' := [(0, .ref 0), (1, .ref 5), (2, .ref 129), (3, .int x3)]) (st' := [.int (x3 + (1 : Int32)), .ref 0, .ref 5]) (h' := hp M) rfl ?_
  obtain ⟨g, h⟩ := am_itg h
  refine am_Y.sald rfl g ?_
  obtain ⟨q49, e_q49, h⟩ := Option.bind_eq_some_iff.mp h
  refine am_Y.call0 (M' := am_M54) (as := [.ref 5, .int (S.2 ((x3 + (1 : Int32))).toNatClampNeg)]) (rest := []) (d' := 2) rfl (by omega) rfl rfl (t_w_ifAsked N (S.2 ((x3 + (1 : Int32))).toNatClampNeg) M q49 e_q49) ?_
  refine am_Y.run (k := 5) (pc' := 1127) (lv' := [(0, .ref 0), (1, .ref 5), (2, .ref 129), (3, .int x3)]) (st' := [.int (x3 + (1 : Int32)), .ref 0, .ref 129, .int q49]) (h' := hp M) rfl ?_
  obtain ⟨g, h⟩ := am_itg h
  refine am_Y.sald rfl g ?_
  obtain ⟨q50, e_q50, h⟩ := Option.bind_eq_some_iff.mp h
  refine am_Y.call0 (M' := am_M55) (as := [.ref 129, .int (S.2 ((x3 + (1 : Int32))).toNatClampNeg)]) (rest := [.int q49]) (d' := 4) rfl (by omega) rfl rfl (t_m_ifAsked N (S.2 ((x3 + (1 : Int32))).toNatClampNeg) M q50.1 q50.2 e_q50) ?_
  refine am_Y.br (c := q49 = q50.1) _ (t := 1792) (u := 1134) (lv' := [(0, .ref 0), (1, .ref 5), (2, .ref 129), (3, .int x3)]) (st' := []) (h' := hp q50.2) rfl (fun hc => ?_) (fun hc => ?_)
  · replace h := (if_pos hc).symm.trans h
    refine am_Y.run (k := 2) (pc' := 18) (lv' := [(3, .int (x3 + (6 : Int32))), (0, .ref 0), (1, .ref 5), (2, .ref 129)]) (st' := []) (h' := hp q50.2) rfl ?_
    refine am_Y.weak (lv2 := [(0, .ref 0), (1, .ref 5), (2, .ref 129), (3, .int (x3 + (6 : Int32)))]) rfl rfl ⟨rfl, rfl, rfl, rfl, trivial⟩ ?_
    exact hK18 (x3 + (6 : Int32)) q50.2 _ _ h
  · replace h := (if_neg hc).symm.trans h
    refine am_Y.run (k := 1) (pc' := 1135) (lv' := [(0, .ref 0), (1, .ref 5), (2, .ref 129), (3, .int x3)]) (st' := [.int (0 : Int32)]) (h' := hp q50.2) rfl ?_
    obtain ⟨rfl, rfl⟩ := Prod.mk.inj (Option.some.inj h)
    exact am_Y.ret rfl
set_option maxRecDepth 100000 in
theorem t_law_1136 {S : Nat × (Nat → Int32)} (N : Nat) (K18 : Int32 → Mem → Option (Int32 × Mem)) (hK18 : ∀ (x3 : Int32) (M : Mem) (r : Int32) (M' : Mem), K18 x3 M = some (r, M') → am_Y S 68 0 0 am_ML 18 [(0, .ref 0), (1, .ref 5), (2, .ref 129), (3, .int x3)] [] (hp M) (some (.int r)) (hp M')) (x3 : Int32) (M : Mem) (r : Int32) (M' : Mem) (h : f_law_1136 S N K18 x3 M = some (r, M')) : am_Y S 68 0 0 am_ML 1136 [(0, .ref 0), (1, .ref 5), (2, .ref 129), (3, .int x3)] [] (hp M) (some (.int r)) (hp M') := by
  rw [f_law_1136] at h
  refine am_Y.run (k := 1) (pc' := 1137) (lv' := [(0, .ref 0), (1, .ref 5), (2, .ref 129), (3, .int x3)]) (st' := [.ref 5]) (h' := hp M) rfl ?_
  obtain ⟨q47, e_q47, h⟩ := Option.bind_eq_some_iff.mp h
  refine am_Y.call0 (M' := am_M56) (as := [.ref 5]) (rest := []) (d' := 2) rfl (by omega) rfl rfl (t_w_silence N M q47 e_q47) ?_
  refine am_Y.run (k := 1) (pc' := 1141) (lv' := [(0, .ref 0), (1, .ref 5), (2, .ref 129), (3, .int x3)]) (st' := [.ref 129, .int q47]) (h' := hp M) rfl ?_
  obtain ⟨q48, e_q48, h⟩ := Option.bind_eq_some_iff.mp h
  refine am_Y.call0 (M' := am_M57) (as := [.ref 129]) (rest := [.int q47]) (d' := 3) rfl (by omega) rfl rfl (t_m_silence N M q48.1 q48.2 e_q48) ?_
  refine am_Y.br (c := q47 = q48.1) _ (t := 1792) (u := 1147) (lv' := [(0, .ref 0), (1, .ref 5), (2, .ref 129), (3, .int x3)]) (st' := []) (h' := hp q48.2) rfl (fun hc => ?_) (fun hc => ?_)
  · replace h := (if_pos hc).symm.trans h
    refine am_Y.run (k := 2) (pc' := 18) (lv' := [(3, .int (x3 + (6 : Int32))), (0, .ref 0), (1, .ref 5), (2, .ref 129)]) (st' := []) (h' := hp q48.2) rfl ?_
    refine am_Y.weak (lv2 := [(0, .ref 0), (1, .ref 5), (2, .ref 129), (3, .int (x3 + (6 : Int32)))]) rfl rfl ⟨rfl, rfl, rfl, rfl, trivial⟩ ?_
    exact hK18 (x3 + (6 : Int32)) q48.2 _ _ h
  · replace h := (if_neg hc).symm.trans h
    refine am_Y.run (k := 1) (pc' := 1148) (lv' := [(0, .ref 0), (1, .ref 5), (2, .ref 129), (3, .int x3)]) (st' := [.int (0 : Int32)]) (h' := hp q48.2) rfl ?_
    obtain ⟨rfl, rfl⟩ := Prod.mk.inj (Option.some.inj h)
    exact am_Y.ret rfl
set_option maxRecDepth 100000 in
theorem t_law_1149 {S : Nat × (Nat → Int32)} (N : Nat) (K18 : Int32 → Mem → Option (Int32 × Mem)) (hK18 : ∀ (x3 : Int32) (M : Mem) (r : Int32) (M' : Mem), K18 x3 M = some (r, M') → am_Y S 68 0 0 am_ML 18 [(0, .ref 0), (1, .ref 5), (2, .ref 129), (3, .int x3)] [] (hp M) (some (.int r)) (hp M')) (x3 : Int32) (M : Mem) (r : Int32) (M' : Mem) (h : f_law_1149 S N K18 x3 M = some (r, M')) : am_Y S 68 0 0 am_ML 1149 [(0, .ref 0), (1, .ref 5), (2, .ref 129), (3, .int x3)] [] (hp M) (some (.int r)) (hp M') := by
  rw [f_law_1149] at h
  refine am_Y.run (k := 5) (pc' := 1154) (lv' := [(0, .ref 0), (1, .ref 5), (2, .ref 129), (3, .int x3)]) (st' := [.int (x3 + (1 : Int32)), .ref 0, .ref 5]) (h' := hp M) rfl ?_
  obtain ⟨g, h⟩ := am_itg h
  refine am_Y.sald rfl g ?_
  obtain ⟨q45, e_q45, h⟩ := Option.bind_eq_some_iff.mp h
  refine am_Y.call0 (M' := am_M58) (as := [.ref 5, .int (S.2 ((x3 + (1 : Int32))).toNatClampNeg)]) (rest := []) (d' := 4) rfl (by omega) rfl rfl (t_w_byRank N (S.2 ((x3 + (1 : Int32))).toNatClampNeg) M q45 e_q45) ?_
  refine am_Y.run (k := 5) (pc' := 1163) (lv' := [(0, .ref 0), (1, .ref 5), (2, .ref 129), (3, .int x3)]) (st' := [.int (x3 + (1 : Int32)), .ref 0, .ref 129, .int q45]) (h' := hp M) rfl ?_
  obtain ⟨g, h⟩ := am_itg h
  refine am_Y.sald rfl g ?_
  obtain ⟨q46, e_q46, h⟩ := Option.bind_eq_some_iff.mp h
  refine am_Y.call0 (M' := am_M59) (as := [.ref 129, .int (S.2 ((x3 + (1 : Int32))).toNatClampNeg)]) (rest := [.int q45]) (d' := 2) rfl (by omega) rfl rfl (t_m_byRank N (S.2 ((x3 + (1 : Int32))).toNatClampNeg) M q46 e_q46) ?_
  refine am_Y.br (c := q45 = q46) _ (t := 1792) (u := 1170) (lv' := [(0, .ref 0), (1, .ref 5), (2, .ref 129), (3, .int x3)]) (st' := []) (h' := hp M) rfl (fun hc => ?_) (fun hc => ?_)
  · replace h := (if_pos hc).symm.trans h
    refine am_Y.run (k := 2) (pc' := 18) (lv' := [(3, .int (x3 + (6 : Int32))), (0, .ref 0), (1, .ref 5), (2, .ref 129)]) (st' := []) (h' := hp M) rfl ?_
    refine am_Y.weak (lv2 := [(0, .ref 0), (1, .ref 5), (2, .ref 129), (3, .int (x3 + (6 : Int32)))]) rfl rfl ⟨rfl, rfl, rfl, rfl, trivial⟩ ?_
    exact hK18 (x3 + (6 : Int32)) M _ _ h
  · replace h := (if_neg hc).symm.trans h
    refine am_Y.run (k := 1) (pc' := 1171) (lv' := [(0, .ref 0), (1, .ref 5), (2, .ref 129), (3, .int x3)]) (st' := [.int (0 : Int32)]) (h' := hp M) rfl ?_
    obtain ⟨rfl, rfl⟩ := Prod.mk.inj (Option.some.inj h)
    exact am_Y.ret rfl
set_option maxRecDepth 100000 in
theorem t_law_1172 {S : Nat × (Nat → Int32)} (N : Nat) (K18 : Int32 → Mem → Option (Int32 × Mem)) (hK18 : ∀ (x3 : Int32) (M : Mem) (r : Int32) (M' : Mem), K18 x3 M = some (r, M') → am_Y S 68 0 0 am_ML 18 [(0, .ref 0), (1, .ref 5), (2, .ref 129), (3, .int x3)] [] (hp M) (some (.int r)) (hp M')) (x3 : Int32) (M : Mem) (r : Int32) (M' : Mem) (h : f_law_1172 S N K18 x3 M = some (r, M')) : am_Y S 68 0 0 am_ML 1172 [(0, .ref 0), (1, .ref 5), (2, .ref 129), (3, .int x3)] [] (hp M) (some (.int r)) (hp M') := by
  rw [f_law_1172] at h
  refine am_Y.run (k := 5) (pc' := 1177) (lv' := [(0, .ref 0), (1, .ref 5), (2, .ref 129), (3, .int x3)]) (st' := [.int (x3 + (1 : Int32)), .ref 0, .ref 5]) (h' := hp M) rfl ?_
  obtain ⟨g, h⟩ := am_itg h
  refine am_Y.sald rfl g ?_
  refine am_Y.run (k := 4) (pc' := 1182) (lv' := [(0, .ref 0), (1, .ref 5), (2, .ref 129), (3, .int x3)]) (st' := [.int (x3 + (2 : Int32)), .ref 0, .int (S.2 ((x3 + (1 : Int32))).toNatClampNeg), .ref 5]) (h' := hp M) rfl ?_
  obtain ⟨g, h⟩ := am_itg h
  refine am_Y.sald rfl g ?_
  obtain ⟨q43, e_q43, h⟩ := Option.bind_eq_some_iff.mp h
  refine am_Y.call0 (M' := am_M60) (as := [.ref 5, .int (S.2 ((x3 + (1 : Int32))).toNatClampNeg), .int (S.2 ((x3 + (2 : Int32))).toNatClampNeg)]) (rest := []) (d' := 2) rfl (by omega) rfl rfl (t_w_told N (S.2 ((x3 + (1 : Int32))).toNatClampNeg) (S.2 ((x3 + (2 : Int32))).toNatClampNeg) M q43 e_q43) ?_
  refine am_Y.run (k := 5) (pc' := 1191) (lv' := [(0, .ref 0), (1, .ref 5), (2, .ref 129), (3, .int x3)]) (st' := [.int (x3 + (1 : Int32)), .ref 0, .ref 129, .int q43]) (h' := hp M) rfl ?_
  obtain ⟨g, h⟩ := am_itg h
  refine am_Y.sald rfl g ?_
  refine am_Y.run (k := 4) (pc' := 1196) (lv' := [(0, .ref 0), (1, .ref 5), (2, .ref 129), (3, .int x3)]) (st' := [.int (x3 + (2 : Int32)), .ref 0, .int (S.2 ((x3 + (1 : Int32))).toNatClampNeg), .ref 129, .int q43]) (h' := hp M) rfl ?_
  obtain ⟨g, h⟩ := am_itg h
  refine am_Y.sald rfl g ?_
  obtain ⟨q44, e_q44, h⟩ := Option.bind_eq_some_iff.mp h
  refine am_Y.call0 (M' := am_M61) (as := [.ref 129, .int (S.2 ((x3 + (1 : Int32))).toNatClampNeg), .int (S.2 ((x3 + (2 : Int32))).toNatClampNeg)]) (rest := [.int q43]) (d' := 2) rfl (by omega) rfl rfl (t_m_told N (S.2 ((x3 + (1 : Int32))).toNatClampNeg) (S.2 ((x3 + (2 : Int32))).toNatClampNeg) M q44 e_q44) ?_
  refine am_Y.br (c := q43 = q44) _ (t := 1792) (u := 1203) (lv' := [(0, .ref 0), (1, .ref 5), (2, .ref 129), (3, .int x3)]) (st' := []) (h' := hp M) rfl (fun hc => ?_) (fun hc => ?_)
  · replace h := (if_pos hc).symm.trans h
    refine am_Y.run (k := 2) (pc' := 18) (lv' := [(3, .int (x3 + (6 : Int32))), (0, .ref 0), (1, .ref 5), (2, .ref 129)]) (st' := []) (h' := hp M) rfl ?_
    refine am_Y.weak (lv2 := [(0, .ref 0), (1, .ref 5), (2, .ref 129), (3, .int (x3 + (6 : Int32)))]) rfl rfl ⟨rfl, rfl, rfl, rfl, trivial⟩ ?_
    exact hK18 (x3 + (6 : Int32)) M _ _ h
  · replace h := (if_neg hc).symm.trans h
    refine am_Y.run (k := 1) (pc' := 1204) (lv' := [(0, .ref 0), (1, .ref 5), (2, .ref 129), (3, .int x3)]) (st' := [.int (0 : Int32)]) (h' := hp M) rfl ?_
    obtain ⟨rfl, rfl⟩ := Prod.mk.inj (Option.some.inj h)
    exact am_Y.ret rfl
set_option maxRecDepth 100000 in
theorem t_law_1205 {S : Nat × (Nat → Int32)} (N : Nat) (K18 : Int32 → Mem → Option (Int32 × Mem)) (hK18 : ∀ (x3 : Int32) (M : Mem) (r : Int32) (M' : Mem), K18 x3 M = some (r, M') → am_Y S 68 0 0 am_ML 18 [(0, .ref 0), (1, .ref 5), (2, .ref 129), (3, .int x3)] [] (hp M) (some (.int r)) (hp M')) (x3 : Int32) (M : Mem) (r : Int32) (M' : Mem) (h : f_law_1205 S N K18 x3 M = some (r, M')) : am_Y S 68 0 0 am_ML 1205 [(0, .ref 0), (1, .ref 5), (2, .ref 129), (3, .int x3)] [] (hp M) (some (.int r)) (hp M') := by
  rw [f_law_1205] at h
  refine am_Y.run (k := 5) (pc' := 1210) (lv' := [(0, .ref 0), (1, .ref 5), (2, .ref 129), (3, .int x3)]) (st' := [.int (x3 + (1 : Int32)), .ref 0, .ref 5]) (h' := hp M) rfl ?_
  obtain ⟨g, h⟩ := am_itg h
  refine am_Y.sald rfl g ?_
  refine am_Y.br (c := (S.2 ((x3 + (1 : Int32))).toNatClampNeg) = (0 : Int32)) _ (t := 1218) (u := 1214) (lv' := [(0, .ref 0), (1, .ref 5), (2, .ref 129), (3, .int x3)]) (st' := [.ref 5]) (h' := hp M) rfl (fun hc => ?_) (fun hc => ?_)
  · replace h := (if_pos hc).symm.trans h
    refine am_Y.run (k := 1) (pc' := 1219) (lv' := [(0, .ref 0), (1, .ref 5), (2, .ref 129), (3, .int x3)]) (st' := [.int (0 : Int32), .ref 5]) (h' := hp M) rfl ?_
    obtain ⟨q37, e_q37, h⟩ := Option.bind_eq_some_iff.mp h
    refine am_Y.call0 (M' := am_M62) (as := [.ref 5, .int (0 : Int32)]) (rest := []) (d' := 2) rfl (by omega) rfl rfl (t_w_meanDies N (0 : Int32) M q37 e_q37) ?_
    refine am_Y.run (k := 5) (pc' := 1227) (lv' := [(0, .ref 0), (1, .ref 5), (2, .ref 129), (3, .int x3)]) (st' := [.int (x3 + (1 : Int32)), .ref 0, .ref 129, .int q37]) (h' := hp M) rfl ?_
    obtain ⟨g, h⟩ := am_itg h
    refine am_Y.sald rfl g ?_
    refine am_Y.br (c := (S.2 ((x3 + (1 : Int32))).toNatClampNeg) = (0 : Int32)) _ (t := 1235) (u := 1231) (lv' := [(0, .ref 0), (1, .ref 5), (2, .ref 129), (3, .int x3)]) (st' := [.ref 129, .int q37]) (h' := hp M) rfl (fun hc => ?_) (fun hc => ?_)
    · replace h := (if_pos hc).symm.trans h
      refine am_Y.run (k := 1) (pc' := 1236) (lv' := [(0, .ref 0), (1, .ref 5), (2, .ref 129), (3, .int x3)]) (st' := [.int (0 : Int32), .ref 129, .int q37]) (h' := hp M) rfl ?_
      obtain ⟨q38, e_q38, h⟩ := Option.bind_eq_some_iff.mp h
      refine am_Y.call0 (M' := am_M63) (as := [.ref 129, .int (0 : Int32)]) (rest := [.int q37]) (d' := 3) rfl (by omega) rfl rfl (t_m_meanDies N (0 : Int32) M q38 e_q38) ?_
      refine am_Y.br (c := q37 = q38) _ (t := 1792) (u := 1242) (lv' := [(0, .ref 0), (1, .ref 5), (2, .ref 129), (3, .int x3)]) (st' := []) (h' := hp M) rfl (fun hc => ?_) (fun hc => ?_)
      · replace h := (if_pos hc).symm.trans h
        refine am_Y.run (k := 2) (pc' := 18) (lv' := [(3, .int (x3 + (6 : Int32))), (0, .ref 0), (1, .ref 5), (2, .ref 129)]) (st' := []) (h' := hp M) rfl ?_
        refine am_Y.weak (lv2 := [(0, .ref 0), (1, .ref 5), (2, .ref 129), (3, .int (x3 + (6 : Int32)))]) rfl rfl ⟨rfl, rfl, rfl, rfl, trivial⟩ ?_
        exact hK18 (x3 + (6 : Int32)) M _ _ h
      · replace h := (if_neg hc).symm.trans h
        refine am_Y.run (k := 1) (pc' := 1243) (lv' := [(0, .ref 0), (1, .ref 5), (2, .ref 129), (3, .int x3)]) (st' := [.int (0 : Int32)]) (h' := hp M) rfl ?_
        obtain ⟨rfl, rfl⟩ := Prod.mk.inj (Option.some.inj h)
        exact am_Y.ret rfl
    · replace h := (if_neg hc).symm.trans h
      refine am_Y.run (k := 2) (pc' := 1236) (lv' := [(0, .ref 0), (1, .ref 5), (2, .ref 129), (3, .int x3)]) (st' := [.int (1 : Int32), .ref 129, .int q37]) (h' := hp M) rfl ?_
      obtain ⟨q39, e_q39, h⟩ := Option.bind_eq_some_iff.mp h
      refine am_Y.call0 (M' := am_M63) (as := [.ref 129, .int (1 : Int32)]) (rest := [.int q37]) (d' := 3) rfl (by omega) rfl rfl (t_m_meanDies N (1 : Int32) M q39 e_q39) ?_
      refine am_Y.br (c := q37 = q39) _ (t := 1792) (u := 1242) (lv' := [(0, .ref 0), (1, .ref 5), (2, .ref 129), (3, .int x3)]) (st' := []) (h' := hp M) rfl (fun hc => ?_) (fun hc => ?_)
      · replace h := (if_pos hc).symm.trans h
        refine am_Y.run (k := 2) (pc' := 18) (lv' := [(3, .int (x3 + (6 : Int32))), (0, .ref 0), (1, .ref 5), (2, .ref 129)]) (st' := []) (h' := hp M) rfl ?_
        refine am_Y.weak (lv2 := [(0, .ref 0), (1, .ref 5), (2, .ref 129), (3, .int (x3 + (6 : Int32)))]) rfl rfl ⟨rfl, rfl, rfl, rfl, trivial⟩ ?_
        exact hK18 (x3 + (6 : Int32)) M _ _ h
      · replace h := (if_neg hc).symm.trans h
        refine am_Y.run (k := 1) (pc' := 1243) (lv' := [(0, .ref 0), (1, .ref 5), (2, .ref 129), (3, .int x3)]) (st' := [.int (0 : Int32)]) (h' := hp M) rfl ?_
        obtain ⟨rfl, rfl⟩ := Prod.mk.inj (Option.some.inj h)
        exact am_Y.ret rfl
  · replace h := (if_neg hc).symm.trans h
    refine am_Y.run (k := 2) (pc' := 1219) (lv' := [(0, .ref 0), (1, .ref 5), (2, .ref 129), (3, .int x3)]) (st' := [.int (1 : Int32), .ref 5]) (h' := hp M) rfl ?_
    obtain ⟨q40, e_q40, h⟩ := Option.bind_eq_some_iff.mp h
    refine am_Y.call0 (M' := am_M62) (as := [.ref 5, .int (1 : Int32)]) (rest := []) (d' := 2) rfl (by omega) rfl rfl (t_w_meanDies N (1 : Int32) M q40 e_q40) ?_
    refine am_Y.run (k := 5) (pc' := 1227) (lv' := [(0, .ref 0), (1, .ref 5), (2, .ref 129), (3, .int x3)]) (st' := [.int (x3 + (1 : Int32)), .ref 0, .ref 129, .int q40]) (h' := hp M) rfl ?_
    obtain ⟨g, h⟩ := am_itg h
    refine am_Y.sald rfl g ?_
    refine am_Y.br (c := (S.2 ((x3 + (1 : Int32))).toNatClampNeg) = (0 : Int32)) _ (t := 1235) (u := 1231) (lv' := [(0, .ref 0), (1, .ref 5), (2, .ref 129), (3, .int x3)]) (st' := [.ref 129, .int q40]) (h' := hp M) rfl (fun hc => ?_) (fun hc => ?_)
    · replace h := (if_pos hc).symm.trans h
      refine am_Y.run (k := 1) (pc' := 1236) (lv' := [(0, .ref 0), (1, .ref 5), (2, .ref 129), (3, .int x3)]) (st' := [.int (0 : Int32), .ref 129, .int q40]) (h' := hp M) rfl ?_
      obtain ⟨q41, e_q41, h⟩ := Option.bind_eq_some_iff.mp h
      refine am_Y.call0 (M' := am_M63) (as := [.ref 129, .int (0 : Int32)]) (rest := [.int q40]) (d' := 3) rfl (by omega) rfl rfl (t_m_meanDies N (0 : Int32) M q41 e_q41) ?_
      refine am_Y.br (c := q40 = q41) _ (t := 1792) (u := 1242) (lv' := [(0, .ref 0), (1, .ref 5), (2, .ref 129), (3, .int x3)]) (st' := []) (h' := hp M) rfl (fun hc => ?_) (fun hc => ?_)
      · replace h := (if_pos hc).symm.trans h
        refine am_Y.run (k := 2) (pc' := 18) (lv' := [(3, .int (x3 + (6 : Int32))), (0, .ref 0), (1, .ref 5), (2, .ref 129)]) (st' := []) (h' := hp M) rfl ?_
        refine am_Y.weak (lv2 := [(0, .ref 0), (1, .ref 5), (2, .ref 129), (3, .int (x3 + (6 : Int32)))]) rfl rfl ⟨rfl, rfl, rfl, rfl, trivial⟩ ?_
        exact hK18 (x3 + (6 : Int32)) M _ _ h
      · replace h := (if_neg hc).symm.trans h
        refine am_Y.run (k := 1) (pc' := 1243) (lv' := [(0, .ref 0), (1, .ref 5), (2, .ref 129), (3, .int x3)]) (st' := [.int (0 : Int32)]) (h' := hp M) rfl ?_
        obtain ⟨rfl, rfl⟩ := Prod.mk.inj (Option.some.inj h)
        exact am_Y.ret rfl
    · replace h := (if_neg hc).symm.trans h
      refine am_Y.run (k := 2) (pc' := 1236) (lv' := [(0, .ref 0), (1, .ref 5), (2, .ref 129), (3, .int x3)]) (st' := [.int (1 : Int32), .ref 129, .int q40]) (h' := hp M) rfl ?_
      obtain ⟨q42, e_q42, h⟩ := Option.bind_eq_some_iff.mp h
      refine am_Y.call0 (M' := am_M63) (as := [.ref 129, .int (1 : Int32)]) (rest := [.int q40]) (d' := 3) rfl (by omega) rfl rfl (t_m_meanDies N (1 : Int32) M q42 e_q42) ?_
      refine am_Y.br (c := q40 = q42) _ (t := 1792) (u := 1242) (lv' := [(0, .ref 0), (1, .ref 5), (2, .ref 129), (3, .int x3)]) (st' := []) (h' := hp M) rfl (fun hc => ?_) (fun hc => ?_)
      · replace h := (if_pos hc).symm.trans h
        refine am_Y.run (k := 2) (pc' := 18) (lv' := [(3, .int (x3 + (6 : Int32))), (0, .ref 0), (1, .ref 5), (2, .ref 129)]) (st' := []) (h' := hp M) rfl ?_
        refine am_Y.weak (lv2 := [(0, .ref 0), (1, .ref 5), (2, .ref 129), (3, .int (x3 + (6 : Int32)))]) rfl rfl ⟨rfl, rfl, rfl, rfl, trivial⟩ ?_
        exact hK18 (x3 + (6 : Int32)) M _ _ h
      · replace h := (if_neg hc).symm.trans h
        refine am_Y.run (k := 1) (pc' := 1243) (lv' := [(0, .ref 0), (1, .ref 5), (2, .ref 129), (3, .int x3)]) (st' := [.int (0 : Int32)]) (h' := hp M) rfl ?_
        obtain ⟨rfl, rfl⟩ := Prod.mk.inj (Option.some.inj h)
        exact am_Y.ret rfl
set_option maxRecDepth 100000 in
theorem t_law_1244 {S : Nat × (Nat → Int32)} (N : Nat) (K18 : Int32 → Mem → Option (Int32 × Mem)) (hK18 : ∀ (x3 : Int32) (M : Mem) (r : Int32) (M' : Mem), K18 x3 M = some (r, M') → am_Y S 68 0 0 am_ML 18 [(0, .ref 0), (1, .ref 5), (2, .ref 129), (3, .int x3)] [] (hp M) (some (.int r)) (hp M')) (x3 : Int32) (M : Mem) (r : Int32) (M' : Mem) (h : f_law_1244 S N K18 x3 M = some (r, M')) : am_Y S 68 0 0 am_ML 1244 [(0, .ref 0), (1, .ref 5), (2, .ref 129), (3, .int x3)] [] (hp M) (some (.int r)) (hp M') := by
  rw [f_law_1244] at h
  refine am_Y.run (k := 5) (pc' := 1249) (lv' := [(0, .ref 0), (1, .ref 5), (2, .ref 129), (3, .int x3)]) (st' := [.int (x3 + (1 : Int32)), .ref 0, .ref 5]) (h' := hp M) rfl ?_
  obtain ⟨g, h⟩ := am_itg h
  refine am_Y.sald rfl g ?_
  obtain ⟨q35, e_q35, h⟩ := Option.bind_eq_some_iff.mp h
  refine am_Y.call0 (M' := am_M64) (as := [.ref 5, .int (S.2 ((x3 + (1 : Int32))).toNatClampNeg)]) (rest := []) (d' := 2) rfl (by omega) rfl rfl (t_w_held N (S.2 ((x3 + (1 : Int32))).toNatClampNeg) M q35.1 q35.2 e_q35) ?_
  refine am_Y.run (k := 5) (pc' := 1258) (lv' := [(0, .ref 0), (1, .ref 5), (2, .ref 129), (3, .int x3)]) (st' := [.int (x3 + (1 : Int32)), .ref 0, .ref 129, .int q35.1]) (h' := hp q35.2) rfl ?_
  obtain ⟨g, h⟩ := am_itg h
  refine am_Y.sald rfl g ?_
  obtain ⟨q36, e_q36, h⟩ := Option.bind_eq_some_iff.mp h
  refine am_Y.call0 (M' := am_M65) (as := [.ref 129, .int (S.2 ((x3 + (1 : Int32))).toNatClampNeg)]) (rest := [.int q35.1]) (d' := 2) rfl (by omega) rfl rfl (t_m_held N (S.2 ((x3 + (1 : Int32))).toNatClampNeg) q35.2 q36.1 q36.2 e_q36) ?_
  refine am_Y.br (c := q35.1 = q36.1) _ (t := 1792) (u := 1265) (lv' := [(0, .ref 0), (1, .ref 5), (2, .ref 129), (3, .int x3)]) (st' := []) (h' := hp q36.2) rfl (fun hc => ?_) (fun hc => ?_)
  · replace h := (if_pos hc).symm.trans h
    refine am_Y.run (k := 2) (pc' := 18) (lv' := [(3, .int (x3 + (6 : Int32))), (0, .ref 0), (1, .ref 5), (2, .ref 129)]) (st' := []) (h' := hp q36.2) rfl ?_
    refine am_Y.weak (lv2 := [(0, .ref 0), (1, .ref 5), (2, .ref 129), (3, .int (x3 + (6 : Int32)))]) rfl rfl ⟨rfl, rfl, rfl, rfl, trivial⟩ ?_
    exact hK18 (x3 + (6 : Int32)) q36.2 _ _ h
  · replace h := (if_neg hc).symm.trans h
    refine am_Y.run (k := 1) (pc' := 1266) (lv' := [(0, .ref 0), (1, .ref 5), (2, .ref 129), (3, .int x3)]) (st' := [.int (0 : Int32)]) (h' := hp q36.2) rfl ?_
    obtain ⟨rfl, rfl⟩ := Prod.mk.inj (Option.some.inj h)
    exact am_Y.ret rfl
set_option maxRecDepth 100000 in
theorem t_law_1267 {S : Nat × (Nat → Int32)} (N : Nat) (K18 : Int32 → Mem → Option (Int32 × Mem)) (hK18 : ∀ (x3 : Int32) (M : Mem) (r : Int32) (M' : Mem), K18 x3 M = some (r, M') → am_Y S 68 0 0 am_ML 18 [(0, .ref 0), (1, .ref 5), (2, .ref 129), (3, .int x3)] [] (hp M) (some (.int r)) (hp M')) (x3 : Int32) (M : Mem) (r : Int32) (M' : Mem) (h : f_law_1267 S N K18 x3 M = some (r, M')) : am_Y S 68 0 0 am_ML 1267 [(0, .ref 0), (1, .ref 5), (2, .ref 129), (3, .int x3)] [] (hp M) (some (.int r)) (hp M') := by
  rw [f_law_1267] at h
  refine am_Y.run (k := 5) (pc' := 1272) (lv' := [(0, .ref 0), (1, .ref 5), (2, .ref 129), (3, .int x3)]) (st' := [.int (x3 + (1 : Int32)), .ref 0, .ref 5]) (h' := hp M) rfl ?_
  obtain ⟨g, h⟩ := am_itg h
  refine am_Y.sald rfl g ?_
  obtain ⟨q33, e_q33, h⟩ := Option.bind_eq_some_iff.mp h
  refine am_Y.call0 (M' := am_M66) (as := [.ref 5, .int (S.2 ((x3 + (1 : Int32))).toNatClampNeg)]) (rest := []) (d' := 2) rfl (by omega) rfl rfl (t_w_stays N (S.2 ((x3 + (1 : Int32))).toNatClampNeg) M q33 e_q33) ?_
  refine am_Y.run (k := 5) (pc' := 1281) (lv' := [(0, .ref 0), (1, .ref 5), (2, .ref 129), (3, .int x3)]) (st' := [.int (x3 + (1 : Int32)), .ref 0, .ref 129, .int q33]) (h' := hp M) rfl ?_
  obtain ⟨g, h⟩ := am_itg h
  refine am_Y.sald rfl g ?_
  obtain ⟨q34, e_q34, h⟩ := Option.bind_eq_some_iff.mp h
  refine am_Y.call0 (M' := am_M67) (as := [.ref 129, .int (S.2 ((x3 + (1 : Int32))).toNatClampNeg)]) (rest := [.int q33]) (d' := 2) rfl (by omega) rfl rfl (t_m_stays N (S.2 ((x3 + (1 : Int32))).toNatClampNeg) M q34 e_q34) ?_
  refine am_Y.br (c := q33 = q34) _ (t := 1792) (u := 1288) (lv' := [(0, .ref 0), (1, .ref 5), (2, .ref 129), (3, .int x3)]) (st' := []) (h' := hp M) rfl (fun hc => ?_) (fun hc => ?_)
  · replace h := (if_pos hc).symm.trans h
    refine am_Y.run (k := 2) (pc' := 18) (lv' := [(3, .int (x3 + (6 : Int32))), (0, .ref 0), (1, .ref 5), (2, .ref 129)]) (st' := []) (h' := hp M) rfl ?_
    refine am_Y.weak (lv2 := [(0, .ref 0), (1, .ref 5), (2, .ref 129), (3, .int (x3 + (6 : Int32)))]) rfl rfl ⟨rfl, rfl, rfl, rfl, trivial⟩ ?_
    exact hK18 (x3 + (6 : Int32)) M _ _ h
  · replace h := (if_neg hc).symm.trans h
    refine am_Y.run (k := 1) (pc' := 1289) (lv' := [(0, .ref 0), (1, .ref 5), (2, .ref 129), (3, .int x3)]) (st' := [.int (0 : Int32)]) (h' := hp M) rfl ?_
    obtain ⟨rfl, rfl⟩ := Prod.mk.inj (Option.some.inj h)
    exact am_Y.ret rfl
set_option maxRecDepth 100000 in
theorem t_law_1290 {S : Nat × (Nat → Int32)} (N : Nat) (K18 : Int32 → Mem → Option (Int32 × Mem)) (hK18 : ∀ (x3 : Int32) (M : Mem) (r : Int32) (M' : Mem), K18 x3 M = some (r, M') → am_Y S 68 0 0 am_ML 18 [(0, .ref 0), (1, .ref 5), (2, .ref 129), (3, .int x3)] [] (hp M) (some (.int r)) (hp M')) (x3 : Int32) (M : Mem) (r : Int32) (M' : Mem) (h : f_law_1290 S N K18 x3 M = some (r, M')) : am_Y S 68 0 0 am_ML 1290 [(0, .ref 0), (1, .ref 5), (2, .ref 129), (3, .int x3)] [] (hp M) (some (.int r)) (hp M') := by
  rw [f_law_1290] at h
  refine am_Y.run (k := 5) (pc' := 1295) (lv' := [(0, .ref 0), (1, .ref 5), (2, .ref 129), (3, .int x3)]) (st' := [.int (x3 + (1 : Int32)), .ref 0, .ref 5]) (h' := hp M) rfl ?_
  obtain ⟨g, h⟩ := am_itg h
  refine am_Y.sald rfl g ?_
  refine am_Y.run (k := 4) (pc' := 1300) (lv' := [(0, .ref 0), (1, .ref 5), (2, .ref 129), (3, .int x3)]) (st' := [.int (x3 + (2 : Int32)), .ref 0, .int (S.2 ((x3 + (1 : Int32))).toNatClampNeg), .ref 5]) (h' := hp M) rfl ?_
  obtain ⟨g, h⟩ := am_itg h
  refine am_Y.sald rfl g ?_
  obtain ⟨q31, e_q31, h⟩ := Option.bind_eq_some_iff.mp h
  refine am_Y.call0 (M' := am_M68) (as := [.ref 5, .int (S.2 ((x3 + (1 : Int32))).toNatClampNeg), .int (S.2 ((x3 + (2 : Int32))).toNatClampNeg)]) (rest := []) (d' := 4) rfl (by omega) rfl rfl (t_w_round N (S.2 ((x3 + (1 : Int32))).toNatClampNeg) (S.2 ((x3 + (2 : Int32))).toNatClampNeg) M q31.1 q31.2 e_q31) ?_
  refine am_Y.run (k := 5) (pc' := 1309) (lv' := [(0, .ref 0), (1, .ref 5), (2, .ref 129), (3, .int x3)]) (st' := [.int (x3 + (1 : Int32)), .ref 0, .ref 129, .int q31.1]) (h' := hp q31.2) rfl ?_
  obtain ⟨g, h⟩ := am_itg h
  refine am_Y.sald rfl g ?_
  refine am_Y.run (k := 4) (pc' := 1314) (lv' := [(0, .ref 0), (1, .ref 5), (2, .ref 129), (3, .int x3)]) (st' := [.int (x3 + (2 : Int32)), .ref 0, .int (S.2 ((x3 + (1 : Int32))).toNatClampNeg), .ref 129, .int q31.1]) (h' := hp q31.2) rfl ?_
  obtain ⟨g, h⟩ := am_itg h
  refine am_Y.sald rfl g ?_
  obtain ⟨q32, e_q32, h⟩ := Option.bind_eq_some_iff.mp h
  refine am_Y.call0 (M' := am_M69) (as := [.ref 129, .int (S.2 ((x3 + (1 : Int32))).toNatClampNeg), .int (S.2 ((x3 + (2 : Int32))).toNatClampNeg)]) (rest := [.int q31.1]) (d' := 3) rfl (by omega) rfl rfl (t_m_round N (S.2 ((x3 + (1 : Int32))).toNatClampNeg) (S.2 ((x3 + (2 : Int32))).toNatClampNeg) q31.2 q32.1 q32.2 e_q32) ?_
  refine am_Y.br (c := q31.1 = q32.1) _ (t := 1792) (u := 1321) (lv' := [(0, .ref 0), (1, .ref 5), (2, .ref 129), (3, .int x3)]) (st' := []) (h' := hp q32.2) rfl (fun hc => ?_) (fun hc => ?_)
  · replace h := (if_pos hc).symm.trans h
    refine am_Y.run (k := 2) (pc' := 18) (lv' := [(3, .int (x3 + (6 : Int32))), (0, .ref 0), (1, .ref 5), (2, .ref 129)]) (st' := []) (h' := hp q32.2) rfl ?_
    refine am_Y.weak (lv2 := [(0, .ref 0), (1, .ref 5), (2, .ref 129), (3, .int (x3 + (6 : Int32)))]) rfl rfl ⟨rfl, rfl, rfl, rfl, trivial⟩ ?_
    exact hK18 (x3 + (6 : Int32)) q32.2 _ _ h
  · replace h := (if_neg hc).symm.trans h
    refine am_Y.run (k := 1) (pc' := 1322) (lv' := [(0, .ref 0), (1, .ref 5), (2, .ref 129), (3, .int x3)]) (st' := [.int (0 : Int32)]) (h' := hp q32.2) rfl ?_
    obtain ⟨rfl, rfl⟩ := Prod.mk.inj (Option.some.inj h)
    exact am_Y.ret rfl
set_option maxRecDepth 100000 in
theorem t_law_1323 {S : Nat × (Nat → Int32)} (N : Nat) (K18 : Int32 → Mem → Option (Int32 × Mem)) (hK18 : ∀ (x3 : Int32) (M : Mem) (r : Int32) (M' : Mem), K18 x3 M = some (r, M') → am_Y S 68 0 0 am_ML 18 [(0, .ref 0), (1, .ref 5), (2, .ref 129), (3, .int x3)] [] (hp M) (some (.int r)) (hp M')) (x3 : Int32) (M : Mem) (r : Int32) (M' : Mem) (h : f_law_1323 S N K18 x3 M = some (r, M')) : am_Y S 68 0 0 am_ML 1323 [(0, .ref 0), (1, .ref 5), (2, .ref 129), (3, .int x3)] [] (hp M) (some (.int r)) (hp M') := by
  rw [f_law_1323] at h
  refine am_Y.run (k := 5) (pc' := 1328) (lv' := [(0, .ref 0), (1, .ref 5), (2, .ref 129), (3, .int x3)]) (st' := [.int (x3 + (1 : Int32)), .ref 0, .ref 5]) (h' := hp M) rfl ?_
  obtain ⟨g, h⟩ := am_itg h
  refine am_Y.sald rfl g ?_
  refine am_Y.run (k := 4) (pc' := 1333) (lv' := [(0, .ref 0), (1, .ref 5), (2, .ref 129), (3, .int x3)]) (st' := [.int (x3 + (2 : Int32)), .ref 0, .int (S.2 ((x3 + (1 : Int32))).toNatClampNeg), .ref 5]) (h' := hp M) rfl ?_
  obtain ⟨g, h⟩ := am_itg h
  refine am_Y.sald rfl g ?_
  obtain ⟨q29, e_q29, h⟩ := Option.bind_eq_some_iff.mp h
  refine am_Y.call0 (M' := am_M70) (as := [.ref 5, .int (S.2 ((x3 + (1 : Int32))).toNatClampNeg), .int (S.2 ((x3 + (2 : Int32))).toNatClampNeg)]) (rest := []) (d' := 2) rfl (by omega) rfl rfl (t_w_provoked N (S.2 ((x3 + (1 : Int32))).toNatClampNeg) (S.2 ((x3 + (2 : Int32))).toNatClampNeg) M q29 e_q29) ?_
  refine am_Y.run (k := 5) (pc' := 1342) (lv' := [(0, .ref 0), (1, .ref 5), (2, .ref 129), (3, .int x3)]) (st' := [.int (x3 + (1 : Int32)), .ref 0, .ref 129, .int q29]) (h' := hp M) rfl ?_
  obtain ⟨g, h⟩ := am_itg h
  refine am_Y.sald rfl g ?_
  refine am_Y.run (k := 4) (pc' := 1347) (lv' := [(0, .ref 0), (1, .ref 5), (2, .ref 129), (3, .int x3)]) (st' := [.int (x3 + (2 : Int32)), .ref 0, .int (S.2 ((x3 + (1 : Int32))).toNatClampNeg), .ref 129, .int q29]) (h' := hp M) rfl ?_
  obtain ⟨g, h⟩ := am_itg h
  refine am_Y.sald rfl g ?_
  obtain ⟨q30, e_q30, h⟩ := Option.bind_eq_some_iff.mp h
  refine am_Y.call0 (M' := am_M71) (as := [.ref 129, .int (S.2 ((x3 + (1 : Int32))).toNatClampNeg), .int (S.2 ((x3 + (2 : Int32))).toNatClampNeg)]) (rest := [.int q29]) (d' := 2) rfl (by omega) rfl rfl (t_m_provoked N (S.2 ((x3 + (1 : Int32))).toNatClampNeg) (S.2 ((x3 + (2 : Int32))).toNatClampNeg) M q30.1 q30.2 e_q30) ?_
  refine am_Y.br (c := q29 = q30.1) _ (t := 1792) (u := 1354) (lv' := [(0, .ref 0), (1, .ref 5), (2, .ref 129), (3, .int x3)]) (st' := []) (h' := hp q30.2) rfl (fun hc => ?_) (fun hc => ?_)
  · replace h := (if_pos hc).symm.trans h
    refine am_Y.run (k := 2) (pc' := 18) (lv' := [(3, .int (x3 + (6 : Int32))), (0, .ref 0), (1, .ref 5), (2, .ref 129)]) (st' := []) (h' := hp q30.2) rfl ?_
    refine am_Y.weak (lv2 := [(0, .ref 0), (1, .ref 5), (2, .ref 129), (3, .int (x3 + (6 : Int32)))]) rfl rfl ⟨rfl, rfl, rfl, rfl, trivial⟩ ?_
    exact hK18 (x3 + (6 : Int32)) q30.2 _ _ h
  · replace h := (if_neg hc).symm.trans h
    refine am_Y.run (k := 1) (pc' := 1355) (lv' := [(0, .ref 0), (1, .ref 5), (2, .ref 129), (3, .int x3)]) (st' := [.int (0 : Int32)]) (h' := hp q30.2) rfl ?_
    obtain ⟨rfl, rfl⟩ := Prod.mk.inj (Option.some.inj h)
    exact am_Y.ret rfl
set_option maxRecDepth 100000 in
theorem t_law_1356 {S : Nat × (Nat → Int32)} (N : Nat) (K18 : Int32 → Mem → Option (Int32 × Mem)) (hK18 : ∀ (x3 : Int32) (M : Mem) (r : Int32) (M' : Mem), K18 x3 M = some (r, M') → am_Y S 68 0 0 am_ML 18 [(0, .ref 0), (1, .ref 5), (2, .ref 129), (3, .int x3)] [] (hp M) (some (.int r)) (hp M')) (x3 : Int32) (M : Mem) (r : Int32) (M' : Mem) (h : f_law_1356 S N K18 x3 M = some (r, M')) : am_Y S 68 0 0 am_ML 1356 [(0, .ref 0), (1, .ref 5), (2, .ref 129), (3, .int x3)] [] (hp M) (some (.int r)) (hp M') := by
  rw [f_law_1356] at h
  refine am_Y.run (k := 5) (pc' := 1361) (lv' := [(0, .ref 0), (1, .ref 5), (2, .ref 129), (3, .int x3)]) (st' := [.int (x3 + (1 : Int32)), .ref 0, .ref 5]) (h' := hp M) rfl ?_
  obtain ⟨g, h⟩ := am_itg h
  refine am_Y.sald rfl g ?_
  obtain ⟨q27, e_q27, h⟩ := Option.bind_eq_some_iff.mp h
  refine am_Y.call0 (M' := am_M72) (as := [.ref 5, .int (S.2 ((x3 + (1 : Int32))).toNatClampNeg)]) (rest := []) (d' := 2) rfl (by omega) rfl rfl (t_w_unsaid N (S.2 ((x3 + (1 : Int32))).toNatClampNeg) M q27 e_q27) ?_
  refine am_Y.run (k := 5) (pc' := 1370) (lv' := [(0, .ref 0), (1, .ref 5), (2, .ref 129), (3, .int x3)]) (st' := [.int (x3 + (1 : Int32)), .ref 0, .ref 129, .int q27]) (h' := hp M) rfl ?_
  obtain ⟨g, h⟩ := am_itg h
  refine am_Y.sald rfl g ?_
  obtain ⟨q28, e_q28, h⟩ := Option.bind_eq_some_iff.mp h
  refine am_Y.call0 (M' := am_M73) (as := [.ref 129, .int (S.2 ((x3 + (1 : Int32))).toNatClampNeg)]) (rest := [.int q27]) (d' := 2) rfl (by omega) rfl rfl (t_m_unsaid N (S.2 ((x3 + (1 : Int32))).toNatClampNeg) M q28 e_q28) ?_
  refine am_Y.br (c := q27 = q28) _ (t := 1792) (u := 1377) (lv' := [(0, .ref 0), (1, .ref 5), (2, .ref 129), (3, .int x3)]) (st' := []) (h' := hp M) rfl (fun hc => ?_) (fun hc => ?_)
  · replace h := (if_pos hc).symm.trans h
    refine am_Y.run (k := 2) (pc' := 18) (lv' := [(3, .int (x3 + (6 : Int32))), (0, .ref 0), (1, .ref 5), (2, .ref 129)]) (st' := []) (h' := hp M) rfl ?_
    refine am_Y.weak (lv2 := [(0, .ref 0), (1, .ref 5), (2, .ref 129), (3, .int (x3 + (6 : Int32)))]) rfl rfl ⟨rfl, rfl, rfl, rfl, trivial⟩ ?_
    exact hK18 (x3 + (6 : Int32)) M _ _ h
  · replace h := (if_neg hc).symm.trans h
    refine am_Y.run (k := 1) (pc' := 1378) (lv' := [(0, .ref 0), (1, .ref 5), (2, .ref 129), (3, .int x3)]) (st' := [.int (0 : Int32)]) (h' := hp M) rfl ?_
    obtain ⟨rfl, rfl⟩ := Prod.mk.inj (Option.some.inj h)
    exact am_Y.ret rfl
set_option maxRecDepth 100000 in
theorem t_law_1379 {S : Nat × (Nat → Int32)} (N : Nat) (K18 : Int32 → Mem → Option (Int32 × Mem)) (hK18 : ∀ (x3 : Int32) (M : Mem) (r : Int32) (M' : Mem), K18 x3 M = some (r, M') → am_Y S 68 0 0 am_ML 18 [(0, .ref 0), (1, .ref 5), (2, .ref 129), (3, .int x3)] [] (hp M) (some (.int r)) (hp M')) (x3 : Int32) (M : Mem) (r : Int32) (M' : Mem) (h : f_law_1379 S N K18 x3 M = some (r, M')) : am_Y S 68 0 0 am_ML 1379 [(0, .ref 0), (1, .ref 5), (2, .ref 129), (3, .int x3)] [] (hp M) (some (.int r)) (hp M') := by
  rw [f_law_1379] at h
  refine am_Y.run (k := 1) (pc' := 1380) (lv' := [(0, .ref 0), (1, .ref 5), (2, .ref 129), (3, .int x3)]) (st' := [.ref 5]) (h' := hp M) rfl ?_
  obtain ⟨q25, e_q25, h⟩ := Option.bind_eq_some_iff.mp h
  refine am_Y.call0 (M' := am_M74) (as := [.ref 5]) (rest := []) (d' := 4) rfl (by omega) rfl rfl (t_w_nextToast N M q25.1 q25.2 e_q25) ?_
  refine am_Y.run (k := 1) (pc' := 1384) (lv' := [(0, .ref 0), (1, .ref 5), (2, .ref 129), (3, .int x3)]) (st' := [.ref 129, .int q25.1]) (h' := hp q25.2) rfl ?_
  obtain ⟨q26, e_q26, h⟩ := Option.bind_eq_some_iff.mp h
  refine am_Y.call0 (M' := am_M75) (as := [.ref 129]) (rest := [.int q25.1]) (d' := 3) rfl (by omega) rfl rfl (t_m_nextToast N q25.2 q26.1 q26.2 e_q26) ?_
  refine am_Y.br (c := q25.1 = q26.1) _ (t := 1792) (u := 1390) (lv' := [(0, .ref 0), (1, .ref 5), (2, .ref 129), (3, .int x3)]) (st' := []) (h' := hp q26.2) rfl (fun hc => ?_) (fun hc => ?_)
  · replace h := (if_pos hc).symm.trans h
    refine am_Y.run (k := 2) (pc' := 18) (lv' := [(3, .int (x3 + (6 : Int32))), (0, .ref 0), (1, .ref 5), (2, .ref 129)]) (st' := []) (h' := hp q26.2) rfl ?_
    refine am_Y.weak (lv2 := [(0, .ref 0), (1, .ref 5), (2, .ref 129), (3, .int (x3 + (6 : Int32)))]) rfl rfl ⟨rfl, rfl, rfl, rfl, trivial⟩ ?_
    exact hK18 (x3 + (6 : Int32)) q26.2 _ _ h
  · replace h := (if_neg hc).symm.trans h
    refine am_Y.run (k := 1) (pc' := 1391) (lv' := [(0, .ref 0), (1, .ref 5), (2, .ref 129), (3, .int x3)]) (st' := [.int (0 : Int32)]) (h' := hp q26.2) rfl ?_
    obtain ⟨rfl, rfl⟩ := Prod.mk.inj (Option.some.inj h)
    exact am_Y.ret rfl
set_option maxRecDepth 100000 in
theorem t_law_1392 {S : Nat × (Nat → Int32)} (N : Nat) (K18 : Int32 → Mem → Option (Int32 × Mem)) (hK18 : ∀ (x3 : Int32) (M : Mem) (r : Int32) (M' : Mem), K18 x3 M = some (r, M') → am_Y S 68 0 0 am_ML 18 [(0, .ref 0), (1, .ref 5), (2, .ref 129), (3, .int x3)] [] (hp M) (some (.int r)) (hp M')) (x3 : Int32) (M : Mem) (r : Int32) (M' : Mem) (h : f_law_1392 S N K18 x3 M = some (r, M')) : am_Y S 68 0 0 am_ML 1392 [(0, .ref 0), (1, .ref 5), (2, .ref 129), (3, .int x3)] [] (hp M) (some (.int r)) (hp M') := by
  rw [f_law_1392] at h
  refine am_Y.run (k := 5) (pc' := 1397) (lv' := [(0, .ref 0), (1, .ref 5), (2, .ref 129), (3, .int x3)]) (st' := [.int (x3 + (1 : Int32)), .ref 0, .ref 5]) (h' := hp M) rfl ?_
  obtain ⟨g, h⟩ := am_itg h
  refine am_Y.sald rfl g ?_
  refine am_Y.run (k := 4) (pc' := 1402) (lv' := [(0, .ref 0), (1, .ref 5), (2, .ref 129), (3, .int x3)]) (st' := [.int (x3 + (2 : Int32)), .ref 0, .int (S.2 ((x3 + (1 : Int32))).toNatClampNeg), .ref 5]) (h' := hp M) rfl ?_
  obtain ⟨g, h⟩ := am_itg h
  refine am_Y.sald rfl g ?_
  refine am_Y.run (k := 4) (pc' := 1407) (lv' := [(0, .ref 0), (1, .ref 5), (2, .ref 129), (3, .int x3)]) (st' := [.int (x3 + (3 : Int32)), .ref 0, .int (S.2 ((x3 + (2 : Int32))).toNatClampNeg), .int (S.2 ((x3 + (1 : Int32))).toNatClampNeg), .ref 5]) (h' := hp M) rfl ?_
  obtain ⟨g, h⟩ := am_itg h
  refine am_Y.sald rfl g ?_
  obtain ⟨q23, e_q23, h⟩ := Option.bind_eq_some_iff.mp h
  refine am_Y.call0 (M' := am_M76) (as := [.ref 5, .int (S.2 ((x3 + (1 : Int32))).toNatClampNeg), .int (S.2 ((x3 + (2 : Int32))).toNatClampNeg), .int (S.2 ((x3 + (3 : Int32))).toNatClampNeg)]) (rest := []) (d' := 1) rfl (by omega) rfl rfl (t_w_odds (S.2 ((x3 + (1 : Int32))).toNatClampNeg) (S.2 ((x3 + (2 : Int32))).toNatClampNeg) (S.2 ((x3 + (3 : Int32))).toNatClampNeg) M q23.1 q23.2 e_q23) ?_
  refine am_Y.run (k := 5) (pc' := 1416) (lv' := [(0, .ref 0), (1, .ref 5), (2, .ref 129), (3, .int x3)]) (st' := [.int (x3 + (1 : Int32)), .ref 0, .ref 129, .int q23.1]) (h' := hp q23.2) rfl ?_
  obtain ⟨g, h⟩ := am_itg h
  refine am_Y.sald rfl g ?_
  refine am_Y.run (k := 4) (pc' := 1421) (lv' := [(0, .ref 0), (1, .ref 5), (2, .ref 129), (3, .int x3)]) (st' := [.int (x3 + (2 : Int32)), .ref 0, .int (S.2 ((x3 + (1 : Int32))).toNatClampNeg), .ref 129, .int q23.1]) (h' := hp q23.2) rfl ?_
  obtain ⟨g, h⟩ := am_itg h
  refine am_Y.sald rfl g ?_
  refine am_Y.run (k := 4) (pc' := 1426) (lv' := [(0, .ref 0), (1, .ref 5), (2, .ref 129), (3, .int x3)]) (st' := [.int (x3 + (3 : Int32)), .ref 0, .int (S.2 ((x3 + (2 : Int32))).toNatClampNeg), .int (S.2 ((x3 + (1 : Int32))).toNatClampNeg), .ref 129, .int q23.1]) (h' := hp q23.2) rfl ?_
  obtain ⟨g, h⟩ := am_itg h
  refine am_Y.sald rfl g ?_
  obtain ⟨q24, e_q24, h⟩ := Option.bind_eq_some_iff.mp h
  refine am_Y.call0 (M' := am_M77) (as := [.ref 129, .int (S.2 ((x3 + (1 : Int32))).toNatClampNeg), .int (S.2 ((x3 + (2 : Int32))).toNatClampNeg), .int (S.2 ((x3 + (3 : Int32))).toNatClampNeg)]) (rest := [.int q23.1]) (d' := 1) rfl (by omega) rfl rfl (t_m_odds (S.2 ((x3 + (1 : Int32))).toNatClampNeg) (S.2 ((x3 + (2 : Int32))).toNatClampNeg) (S.2 ((x3 + (3 : Int32))).toNatClampNeg) q23.2 q24.1 q24.2 e_q24) ?_
  refine am_Y.br (c := q23.1 = q24.1) _ (t := 1792) (u := 1433) (lv' := [(0, .ref 0), (1, .ref 5), (2, .ref 129), (3, .int x3)]) (st' := []) (h' := hp q24.2) rfl (fun hc => ?_) (fun hc => ?_)
  · replace h := (if_pos hc).symm.trans h
    refine am_Y.run (k := 2) (pc' := 18) (lv' := [(3, .int (x3 + (6 : Int32))), (0, .ref 0), (1, .ref 5), (2, .ref 129)]) (st' := []) (h' := hp q24.2) rfl ?_
    refine am_Y.weak (lv2 := [(0, .ref 0), (1, .ref 5), (2, .ref 129), (3, .int (x3 + (6 : Int32)))]) rfl rfl ⟨rfl, rfl, rfl, rfl, trivial⟩ ?_
    exact hK18 (x3 + (6 : Int32)) q24.2 _ _ h
  · replace h := (if_neg hc).symm.trans h
    refine am_Y.run (k := 1) (pc' := 1434) (lv' := [(0, .ref 0), (1, .ref 5), (2, .ref 129), (3, .int x3)]) (st' := [.int (0 : Int32)]) (h' := hp q24.2) rfl ?_
    obtain ⟨rfl, rfl⟩ := Prod.mk.inj (Option.some.inj h)
    exact am_Y.ret rfl
set_option maxRecDepth 100000 in
theorem t_law_1435 {S : Nat × (Nat → Int32)} (N : Nat) (K18 : Int32 → Mem → Option (Int32 × Mem)) (hK18 : ∀ (x3 : Int32) (M : Mem) (r : Int32) (M' : Mem), K18 x3 M = some (r, M') → am_Y S 68 0 0 am_ML 18 [(0, .ref 0), (1, .ref 5), (2, .ref 129), (3, .int x3)] [] (hp M) (some (.int r)) (hp M')) (x3 : Int32) (M : Mem) (r : Int32) (M' : Mem) (h : f_law_1435 S N K18 x3 M = some (r, M')) : am_Y S 68 0 0 am_ML 1435 [(0, .ref 0), (1, .ref 5), (2, .ref 129), (3, .int x3)] [] (hp M) (some (.int r)) (hp M') := by
  rw [f_law_1435] at h
  refine am_Y.run (k := 5) (pc' := 1440) (lv' := [(0, .ref 0), (1, .ref 5), (2, .ref 129), (3, .int x3)]) (st' := [.int (x3 + (1 : Int32)), .ref 0, .ref 5]) (h' := hp M) rfl ?_
  obtain ⟨g, h⟩ := am_itg h
  refine am_Y.sald rfl g ?_
  refine am_Y.run (k := 4) (pc' := 1445) (lv' := [(0, .ref 0), (1, .ref 5), (2, .ref 129), (3, .int x3)]) (st' := [.int (x3 + (2 : Int32)), .ref 0, .int (S.2 ((x3 + (1 : Int32))).toNatClampNeg), .ref 5]) (h' := hp M) rfl ?_
  obtain ⟨g, h⟩ := am_itg h
  refine am_Y.sald rfl g ?_
  obtain ⟨q21, e_q21, h⟩ := Option.bind_eq_some_iff.mp h
  refine am_Y.call0 (M' := am_M78) (as := [.ref 5, .int (S.2 ((x3 + (1 : Int32))).toNatClampNeg), .int (S.2 ((x3 + (2 : Int32))).toNatClampNeg)]) (rest := []) (d' := 2) rfl (by omega) rfl rfl (t_w_falls (S.2 ((x3 + (1 : Int32))).toNatClampNeg) (S.2 ((x3 + (2 : Int32))).toNatClampNeg) M q21.1 q21.2 e_q21) ?_
  refine am_Y.run (k := 5) (pc' := 1454) (lv' := [(0, .ref 0), (1, .ref 5), (2, .ref 129), (3, .int x3)]) (st' := [.int (x3 + (1 : Int32)), .ref 0, .ref 129, .int q21.1]) (h' := hp q21.2) rfl ?_
  obtain ⟨g, h⟩ := am_itg h
  refine am_Y.sald rfl g ?_
  refine am_Y.run (k := 4) (pc' := 1459) (lv' := [(0, .ref 0), (1, .ref 5), (2, .ref 129), (3, .int x3)]) (st' := [.int (x3 + (2 : Int32)), .ref 0, .int (S.2 ((x3 + (1 : Int32))).toNatClampNeg), .ref 129, .int q21.1]) (h' := hp q21.2) rfl ?_
  obtain ⟨g, h⟩ := am_itg h
  refine am_Y.sald rfl g ?_
  obtain ⟨q22, e_q22, h⟩ := Option.bind_eq_some_iff.mp h
  refine am_Y.call0 (M' := am_M79) (as := [.ref 129, .int (S.2 ((x3 + (1 : Int32))).toNatClampNeg), .int (S.2 ((x3 + (2 : Int32))).toNatClampNeg)]) (rest := [.int q21.1]) (d' := 2) rfl (by omega) rfl rfl (t_m_falls (S.2 ((x3 + (1 : Int32))).toNatClampNeg) (S.2 ((x3 + (2 : Int32))).toNatClampNeg) q21.2 q22.1 q22.2 e_q22) ?_
  refine am_Y.br (c := q21.1 = q22.1) _ (t := 1792) (u := 1466) (lv' := [(0, .ref 0), (1, .ref 5), (2, .ref 129), (3, .int x3)]) (st' := []) (h' := hp q22.2) rfl (fun hc => ?_) (fun hc => ?_)
  · replace h := (if_pos hc).symm.trans h
    refine am_Y.run (k := 2) (pc' := 18) (lv' := [(3, .int (x3 + (6 : Int32))), (0, .ref 0), (1, .ref 5), (2, .ref 129)]) (st' := []) (h' := hp q22.2) rfl ?_
    refine am_Y.weak (lv2 := [(0, .ref 0), (1, .ref 5), (2, .ref 129), (3, .int (x3 + (6 : Int32)))]) rfl rfl ⟨rfl, rfl, rfl, rfl, trivial⟩ ?_
    exact hK18 (x3 + (6 : Int32)) q22.2 _ _ h
  · replace h := (if_neg hc).symm.trans h
    refine am_Y.run (k := 1) (pc' := 1467) (lv' := [(0, .ref 0), (1, .ref 5), (2, .ref 129), (3, .int x3)]) (st' := [.int (0 : Int32)]) (h' := hp q22.2) rfl ?_
    obtain ⟨rfl, rfl⟩ := Prod.mk.inj (Option.some.inj h)
    exact am_Y.ret rfl
set_option maxRecDepth 100000 in
theorem t_law_1468 {S : Nat × (Nat → Int32)} (N : Nat) (K18 : Int32 → Mem → Option (Int32 × Mem)) (hK18 : ∀ (x3 : Int32) (M : Mem) (r : Int32) (M' : Mem), K18 x3 M = some (r, M') → am_Y S 68 0 0 am_ML 18 [(0, .ref 0), (1, .ref 5), (2, .ref 129), (3, .int x3)] [] (hp M) (some (.int r)) (hp M')) (x3 : Int32) (M : Mem) (r : Int32) (M' : Mem) (h : f_law_1468 S N K18 x3 M = some (r, M')) : am_Y S 68 0 0 am_ML 1468 [(0, .ref 0), (1, .ref 5), (2, .ref 129), (3, .int x3)] [] (hp M) (some (.int r)) (hp M') := by
  rw [f_law_1468] at h
  refine am_Y.run (k := 5) (pc' := 1473) (lv' := [(0, .ref 0), (1, .ref 5), (2, .ref 129), (3, .int x3)]) (st' := [.int (x3 + (1 : Int32)), .ref 0, .ref 5]) (h' := hp M) rfl ?_
  obtain ⟨g, h⟩ := am_itg h
  refine am_Y.sald rfl g ?_
  refine am_Y.run (k := 4) (pc' := 1478) (lv' := [(0, .ref 0), (1, .ref 5), (2, .ref 129), (3, .int x3)]) (st' := [.int (x3 + (2 : Int32)), .ref 0, .int (S.2 ((x3 + (1 : Int32))).toNatClampNeg), .ref 5]) (h' := hp M) rfl ?_
  obtain ⟨g, h⟩ := am_itg h
  refine am_Y.sald rfl g ?_
  refine am_Y.run (k := 4) (pc' := 1483) (lv' := [(0, .ref 0), (1, .ref 5), (2, .ref 129), (3, .int x3)]) (st' := [.int (x3 + (3 : Int32)), .ref 0, .int (S.2 ((x3 + (2 : Int32))).toNatClampNeg), .int (S.2 ((x3 + (1 : Int32))).toNatClampNeg), .ref 5]) (h' := hp M) rfl ?_
  obtain ⟨g, h⟩ := am_itg h
  refine am_Y.sald rfl g ?_
  refine am_Y.run (k := 4) (pc' := 1488) (lv' := [(0, .ref 0), (1, .ref 5), (2, .ref 129), (3, .int x3)]) (st' := [.int (x3 + (4 : Int32)), .ref 0, .int (S.2 ((x3 + (3 : Int32))).toNatClampNeg), .int (S.2 ((x3 + (2 : Int32))).toNatClampNeg), .int (S.2 ((x3 + (1 : Int32))).toNatClampNeg), .ref 5]) (h' := hp M) rfl ?_
  obtain ⟨g, h⟩ := am_itg h
  refine am_Y.sald rfl g ?_
  obtain ⟨q19, e_q19, h⟩ := Option.bind_eq_some_iff.mp h
  refine am_Y.call0 (M' := am_M80) (as := [.ref 5, .int (S.2 ((x3 + (1 : Int32))).toNatClampNeg), .int (S.2 ((x3 + (2 : Int32))).toNatClampNeg), .int (S.2 ((x3 + (3 : Int32))).toNatClampNeg), .int (S.2 ((x3 + (4 : Int32))).toNatClampNeg)]) (rest := []) (d' := 4) rfl (by omega) rfl rfl (t_w_when N (S.2 ((x3 + (1 : Int32))).toNatClampNeg) (S.2 ((x3 + (2 : Int32))).toNatClampNeg) (S.2 ((x3 + (3 : Int32))).toNatClampNeg) (S.2 ((x3 + (4 : Int32))).toNatClampNeg) M q19.1 q19.2 e_q19) ?_
  refine am_Y.run (k := 5) (pc' := 1497) (lv' := [(0, .ref 0), (1, .ref 5), (2, .ref 129), (3, .int x3)]) (st' := [.int (x3 + (1 : Int32)), .ref 0, .ref 129, .long q19.1]) (h' := hp q19.2) rfl ?_
  obtain ⟨g, h⟩ := am_itg h
  refine am_Y.sald rfl g ?_
  refine am_Y.run (k := 4) (pc' := 1502) (lv' := [(0, .ref 0), (1, .ref 5), (2, .ref 129), (3, .int x3)]) (st' := [.int (x3 + (2 : Int32)), .ref 0, .int (S.2 ((x3 + (1 : Int32))).toNatClampNeg), .ref 129, .long q19.1]) (h' := hp q19.2) rfl ?_
  obtain ⟨g, h⟩ := am_itg h
  refine am_Y.sald rfl g ?_
  refine am_Y.run (k := 4) (pc' := 1507) (lv' := [(0, .ref 0), (1, .ref 5), (2, .ref 129), (3, .int x3)]) (st' := [.int (x3 + (3 : Int32)), .ref 0, .int (S.2 ((x3 + (2 : Int32))).toNatClampNeg), .int (S.2 ((x3 + (1 : Int32))).toNatClampNeg), .ref 129, .long q19.1]) (h' := hp q19.2) rfl ?_
  obtain ⟨g, h⟩ := am_itg h
  refine am_Y.sald rfl g ?_
  refine am_Y.run (k := 4) (pc' := 1512) (lv' := [(0, .ref 0), (1, .ref 5), (2, .ref 129), (3, .int x3)]) (st' := [.int (x3 + (4 : Int32)), .ref 0, .int (S.2 ((x3 + (3 : Int32))).toNatClampNeg), .int (S.2 ((x3 + (2 : Int32))).toNatClampNeg), .int (S.2 ((x3 + (1 : Int32))).toNatClampNeg), .ref 129, .long q19.1]) (h' := hp q19.2) rfl ?_
  obtain ⟨g, h⟩ := am_itg h
  refine am_Y.sald rfl g ?_
  obtain ⟨q20, e_q20, h⟩ := Option.bind_eq_some_iff.mp h
  refine am_Y.call0 (M' := am_M81) (as := [.ref 129, .int (S.2 ((x3 + (1 : Int32))).toNatClampNeg), .int (S.2 ((x3 + (2 : Int32))).toNatClampNeg), .int (S.2 ((x3 + (3 : Int32))).toNatClampNeg), .int (S.2 ((x3 + (4 : Int32))).toNatClampNeg)]) (rest := [.long q19.1]) (d' := 4) rfl (by omega) rfl rfl (t_m_when N (S.2 ((x3 + (1 : Int32))).toNatClampNeg) (S.2 ((x3 + (2 : Int32))).toNatClampNeg) (S.2 ((x3 + (3 : Int32))).toNatClampNeg) (S.2 ((x3 + (4 : Int32))).toNatClampNeg) q19.2 q20.1 q20.2 e_q20) ?_
  refine am_Y.run (k := 1) (pc' := 1517) (lv' := [(0, .ref 0), (1, .ref 5), (2, .ref 129), (3, .int x3)]) (st' := [.int (lg_cmp q19.1 q20.1)]) (h' := hp q20.2) rfl ?_
  refine am_Y.br (c := (lg_cmp q19.1 q20.1) = (0 : Int32)) _ (t := 1792) (u := 1520) (lv' := [(0, .ref 0), (1, .ref 5), (2, .ref 129), (3, .int x3)]) (st' := []) (h' := hp q20.2) rfl (fun hc => ?_) (fun hc => ?_)
  · replace h := (if_pos hc).symm.trans h
    refine am_Y.run (k := 2) (pc' := 18) (lv' := [(3, .int (x3 + (6 : Int32))), (0, .ref 0), (1, .ref 5), (2, .ref 129)]) (st' := []) (h' := hp q20.2) rfl ?_
    refine am_Y.weak (lv2 := [(0, .ref 0), (1, .ref 5), (2, .ref 129), (3, .int (x3 + (6 : Int32)))]) rfl rfl ⟨rfl, rfl, rfl, rfl, trivial⟩ ?_
    exact hK18 (x3 + (6 : Int32)) q20.2 _ _ h
  · replace h := (if_neg hc).symm.trans h
    refine am_Y.run (k := 1) (pc' := 1521) (lv' := [(0, .ref 0), (1, .ref 5), (2, .ref 129), (3, .int x3)]) (st' := [.int (0 : Int32)]) (h' := hp q20.2) rfl ?_
    obtain ⟨rfl, rfl⟩ := Prod.mk.inj (Option.some.inj h)
    exact am_Y.ret rfl
