/-! AM does the law as the function says. -/
set_option maxRecDepth 100000 in
theorem t_law_703 {S : Nat × (Nat → Int32)} (N : Nat) (K18 : Int32 → Mem → Option (Int32 × Mem)) (hK18 : ∀ (x3 : Int32) (M : Mem) (r : Int32) (M' : Mem), K18 x3 M = some (r, M') → am_Y S 68 0 0 am_ML 18 [(0, .ref 0), (1, .ref 5), (2, .ref 129), (3, .int x3)] [] (hp M) (some (.int r)) (hp M')) (x3 : Int32) (M : Mem) (r : Int32) (M' : Mem) (h : f_law_703 S N K18 x3 M = some (r, M')) : am_Y S 68 0 0 am_ML 703 [(0, .ref 0), (1, .ref 5), (2, .ref 129), (3, .int x3)] [] (hp M) (some (.int r)) (hp M') := by
  rw [f_law_703] at h
  refine am_Y.run (k := 5) (pc' := 708) (lv' := [(0, .ref 0), (1, .ref 5), (2, .ref 129), (3, .int x3)]) (st' := [.int (x3 + (1 : Int32)), .ref 0, .ref 5]) (h' := hp M) rfl ?_
  obtain ⟨g, h⟩ := am_itg h
  refine am_Y.sald rfl g ?_
  refine am_Y.run (k := 4) (pc' := 713) (lv' := [(0, .ref 0), (1, .ref 5), (2, .ref 129), (3, .int x3)]) (st' := [.int (x3 + (2 : Int32)), .ref 0, .int (S.2 ((x3 + (1 : Int32))).toNatClampNeg), .ref 5]) (h' := hp M) rfl ?_
  obtain ⟨g, h⟩ := am_itg h
  refine am_Y.sald rfl g ?_
  obtain ⟨q87, e_q87, h⟩ := Option.bind_eq_some_iff.mp h
  refine am_Y.call0 (M' := am_M36) (as := [.ref 5, .int (S.2 ((x3 + (1 : Int32))).toNatClampNeg), .int (S.2 ((x3 + (2 : Int32))).toNatClampNeg)]) (rest := []) (d' := 1) rfl (by omega) rfl rfl (t_w_book (S.2 ((x3 + (1 : Int32))).toNatClampNeg) (S.2 ((x3 + (2 : Int32))).toNatClampNeg) M q87 e_q87) ?_
  refine am_Y.run (k := 5) (pc' := 722) (lv' := [(0, .ref 0), (1, .ref 5), (2, .ref 129), (3, .int x3)]) (st' := [.int (x3 + (1 : Int32)), .ref 0, .ref 129, .int q87]) (h' := hp M) rfl ?_
  obtain ⟨g, h⟩ := am_itg h
  refine am_Y.sald rfl g ?_
  refine am_Y.run (k := 4) (pc' := 727) (lv' := [(0, .ref 0), (1, .ref 5), (2, .ref 129), (3, .int x3)]) (st' := [.int (x3 + (2 : Int32)), .ref 0, .int (S.2 ((x3 + (1 : Int32))).toNatClampNeg), .ref 129, .int q87]) (h' := hp M) rfl ?_
  obtain ⟨g, h⟩ := am_itg h
  refine am_Y.sald rfl g ?_
  obtain ⟨q88, e_q88, h⟩ := Option.bind_eq_some_iff.mp h
  refine am_Y.call0 (M' := am_M37) (as := [.ref 129, .int (S.2 ((x3 + (1 : Int32))).toNatClampNeg), .int (S.2 ((x3 + (2 : Int32))).toNatClampNeg)]) (rest := [.int q87]) (d' := 3) rfl (by omega) rfl rfl (t_m_book (S.2 ((x3 + (1 : Int32))).toNatClampNeg) (S.2 ((x3 + (2 : Int32))).toNatClampNeg) M q88 e_q88) ?_
  refine am_Y.br (c := q87 = q88) _ (t := 1792) (u := 734) (lv' := [(0, .ref 0), (1, .ref 5), (2, .ref 129), (3, .int x3)]) (st' := []) (h' := hp M) rfl (fun hc => ?_) (fun hc => ?_)
  · replace h := (if_pos hc).symm.trans h
    refine am_Y.run (k := 2) (pc' := 18) (lv' := [(3, .int (x3 + (6 : Int32))), (0, .ref 0), (1, .ref 5), (2, .ref 129)]) (st' := []) (h' := hp M) rfl ?_
    refine am_Y.weak (lv2 := [(0, .ref 0), (1, .ref 5), (2, .ref 129), (3, .int (x3 + (6 : Int32)))]) rfl rfl ⟨rfl, rfl, rfl, rfl, trivial⟩ ?_
    exact hK18 (x3 + (6 : Int32)) M _ _ h
  · replace h := (if_neg hc).symm.trans h
    refine am_Y.run (k := 1) (pc' := 735) (lv' := [(0, .ref 0), (1, .ref 5), (2, .ref 129), (3, .int x3)]) (st' := [.int (0 : Int32)]) (h' := hp M) rfl ?_
    obtain ⟨rfl, rfl⟩ := Prod.mk.inj (Option.some.inj h)
    exact am_Y.ret rfl
set_option maxRecDepth 100000 in
theorem t_law_736 {S : Nat × (Nat → Int32)} (N : Nat) (K18 : Int32 → Mem → Option (Int32 × Mem)) (hK18 : ∀ (x3 : Int32) (M : Mem) (r : Int32) (M' : Mem), K18 x3 M = some (r, M') → am_Y S 68 0 0 am_ML 18 [(0, .ref 0), (1, .ref 5), (2, .ref 129), (3, .int x3)] [] (hp M) (some (.int r)) (hp M')) (x3 : Int32) (M : Mem) (r : Int32) (M' : Mem) (h : f_law_736 S N K18 x3 M = some (r, M')) : am_Y S 68 0 0 am_ML 736 [(0, .ref 0), (1, .ref 5), (2, .ref 129), (3, .int x3)] [] (hp M) (some (.int r)) (hp M') := by
  rw [f_law_736] at h
  refine am_Y.run (k := 5) (pc' := 741) (lv' := [(0, .ref 0), (1, .ref 5), (2, .ref 129), (3, .int x3)]) (st' := [.int (x3 + (1 : Int32)), .ref 0, .ref 5]) (h' := hp M) rfl ?_
  obtain ⟨g, h⟩ := am_itg h
  refine am_Y.sald rfl g ?_
  refine am_Y.run (k := 4) (pc' := 746) (lv' := [(0, .ref 0), (1, .ref 5), (2, .ref 129), (3, .int x3)]) (st' := [.int (x3 + (2 : Int32)), .ref 0, .int (S.2 ((x3 + (1 : Int32))).toNatClampNeg), .ref 5]) (h' := hp M) rfl ?_
  obtain ⟨g, h⟩ := am_itg h
  refine am_Y.sald rfl g ?_
  refine am_Y.run (k := 4) (pc' := 751) (lv' := [(0, .ref 0), (1, .ref 5), (2, .ref 129), (3, .int x3)]) (st' := [.int (x3 + (3 : Int32)), .ref 0, .int (S.2 ((x3 + (2 : Int32))).toNatClampNeg), .int (S.2 ((x3 + (1 : Int32))).toNatClampNeg), .ref 5]) (h' := hp M) rfl ?_
  obtain ⟨g, h⟩ := am_itg h
  refine am_Y.sald rfl g ?_
  refine am_Y.br (c := (S.2 ((x3 + (3 : Int32))).toNatClampNeg) = (0 : Int32)) _ (t := 759) (u := 755) (lv' := [(0, .ref 0), (1, .ref 5), (2, .ref 129), (3, .int x3)]) (st' := [.int (S.2 ((x3 + (2 : Int32))).toNatClampNeg), .int (S.2 ((x3 + (1 : Int32))).toNatClampNeg), .ref 5]) (h' := hp M) rfl (fun hc => ?_) (fun hc => ?_)
  · replace h := (if_pos hc).symm.trans h
    refine am_Y.run (k := 1) (pc' := 760) (lv' := [(0, .ref 0), (1, .ref 5), (2, .ref 129), (3, .int x3)]) (st' := [.int (0 : Int32), .int (S.2 ((x3 + (2 : Int32))).toNatClampNeg), .int (S.2 ((x3 + (1 : Int32))).toNatClampNeg), .ref 5]) (h' := hp M) rfl ?_
    obtain ⟨q81, e_q81, h⟩ := Option.bind_eq_some_iff.mp h
    refine am_Y.call0 (M' := am_M38) (as := [.ref 5, .int (S.2 ((x3 + (1 : Int32))).toNatClampNeg), .int (S.2 ((x3 + (2 : Int32))).toNatClampNeg), .int (0 : Int32)]) (rest := []) (d' := 3) rfl (by omega) rfl rfl (t_w_inherits N (S.2 ((x3 + (1 : Int32))).toNatClampNeg) (S.2 ((x3 + (2 : Int32))).toNatClampNeg) (0 : Int32) M q81 e_q81) ?_
    refine am_Y.run (k := 5) (pc' := 768) (lv' := [(0, .ref 0), (1, .ref 5), (2, .ref 129), (3, .int x3)]) (st' := [.int (x3 + (1 : Int32)), .ref 0, .ref 129, .long q81]) (h' := hp M) rfl ?_
    obtain ⟨g, h⟩ := am_itg h
    refine am_Y.sald rfl g ?_
    refine am_Y.run (k := 4) (pc' := 773) (lv' := [(0, .ref 0), (1, .ref 5), (2, .ref 129), (3, .int x3)]) (st' := [.int (x3 + (2 : Int32)), .ref 0, .int (S.2 ((x3 + (1 : Int32))).toNatClampNeg), .ref 129, .long q81]) (h' := hp M) rfl ?_
    obtain ⟨g, h⟩ := am_itg h
    refine am_Y.sald rfl g ?_
    refine am_Y.run (k := 4) (pc' := 778) (lv' := [(0, .ref 0), (1, .ref 5), (2, .ref 129), (3, .int x3)]) (st' := [.int (x3 + (3 : Int32)), .ref 0, .int (S.2 ((x3 + (2 : Int32))).toNatClampNeg), .int (S.2 ((x3 + (1 : Int32))).toNatClampNeg), .ref 129, .long q81]) (h' := hp M) rfl ?_
    obtain ⟨g, h⟩ := am_itg h
    refine am_Y.sald rfl g ?_
    refine am_Y.br (c := (S.2 ((x3 + (3 : Int32))).toNatClampNeg) = (0 : Int32)) _ (t := 786) (u := 782) (lv' := [(0, .ref 0), (1, .ref 5), (2, .ref 129), (3, .int x3)]) (st' := [.int (S.2 ((x3 + (2 : Int32))).toNatClampNeg), .int (S.2 ((x3 + (1 : Int32))).toNatClampNeg), .ref 129, .long q81]) (h' := hp M) rfl (fun hc => ?_) (fun hc => ?_)
    · replace h := (if_pos hc).symm.trans h
      refine am_Y.run (k := 1) (pc' := 787) (lv' := [(0, .ref 0), (1, .ref 5), (2, .ref 129), (3, .int x3)]) (st' := [.int (0 : Int32), .int (S.2 ((x3 + (2 : Int32))).toNatClampNeg), .int (S.2 ((x3 + (1 : Int32))).toNatClampNeg), .ref 129, .long q81]) (h' := hp M) rfl ?_
      obtain ⟨q82, e_q82, h⟩ := Option.bind_eq_some_iff.mp h
      refine am_Y.call0 (M' := am_M39) (as := [.ref 129, .int (S.2 ((x3 + (1 : Int32))).toNatClampNeg), .int (S.2 ((x3 + (2 : Int32))).toNatClampNeg), .int (0 : Int32)]) (rest := [.long q81]) (d' := 4) rfl (by omega) rfl rfl (t_m_inherits N (S.2 ((x3 + (1 : Int32))).toNatClampNeg) (S.2 ((x3 + (2 : Int32))).toNatClampNeg) (0 : Int32) M q82 e_q82) ?_
      refine am_Y.run (k := 1) (pc' := 791) (lv' := [(0, .ref 0), (1, .ref 5), (2, .ref 129), (3, .int x3)]) (st' := [.int (lg_cmp q81 q82)]) (h' := hp M) rfl ?_
      refine am_Y.br (c := (lg_cmp q81 q82) = (0 : Int32)) _ (t := 1792) (u := 794) (lv' := [(0, .ref 0), (1, .ref 5), (2, .ref 129), (3, .int x3)]) (st' := []) (h' := hp M) rfl (fun hc => ?_) (fun hc => ?_)
      · replace h := (if_pos hc).symm.trans h
        refine am_Y.run (k := 2) (pc' := 18) (lv' := [(3, .int (x3 + (6 : Int32))), (0, .ref 0), (1, .ref 5), (2, .ref 129)]) (st' := []) (h' := hp M) rfl ?_
        refine am_Y.weak (lv2 := [(0, .ref 0), (1, .ref 5), (2, .ref 129), (3, .int (x3 + (6 : Int32)))]) rfl rfl ⟨rfl, rfl, rfl, rfl, trivial⟩ ?_
        exact hK18 (x3 + (6 : Int32)) M _ _ h
      · replace h := (if_neg hc).symm.trans h
        refine am_Y.run (k := 1) (pc' := 795) (lv' := [(0, .ref 0), (1, .ref 5), (2, .ref 129), (3, .int x3)]) (st' := [.int (0 : Int32)]) (h' := hp M) rfl ?_
        obtain ⟨rfl, rfl⟩ := Prod.mk.inj (Option.some.inj h)
        exact am_Y.ret rfl
    · replace h := (if_neg hc).symm.trans h
      refine am_Y.run (k := 2) (pc' := 787) (lv' := [(0, .ref 0), (1, .ref 5), (2, .ref 129), (3, .int x3)]) (st' := [.int (1 : Int32), .int (S.2 ((x3 + (2 : Int32))).toNatClampNeg), .int (S.2 ((x3 + (1 : Int32))).toNatClampNeg), .ref 129, .long q81]) (h' := hp M) rfl ?_
      obtain ⟨q83, e_q83, h⟩ := Option.bind_eq_some_iff.mp h
      refine am_Y.call0 (M' := am_M39) (as := [.ref 129, .int (S.2 ((x3 + (1 : Int32))).toNatClampNeg), .int (S.2 ((x3 + (2 : Int32))).toNatClampNeg), .int (1 : Int32)]) (rest := [.long q81]) (d' := 4) rfl (by omega) rfl rfl (t_m_inherits N (S.2 ((x3 + (1 : Int32))).toNatClampNeg) (S.2 ((x3 + (2 : Int32))).toNatClampNeg) (1 : Int32) M q83 e_q83) ?_
      refine am_Y.run (k := 1) (pc' := 791) (lv' := [(0, .ref 0), (1, .ref 5), (2, .ref 129), (3, .int x3)]) (st' := [.int (lg_cmp q81 q83)]) (h' := hp M) rfl ?_
      refine am_Y.br (c := (lg_cmp q81 q83) = (0 : Int32)) _ (t := 1792) (u := 794) (lv' := [(0, .ref 0), (1, .ref 5), (2, .ref 129), (3, .int x3)]) (st' := []) (h' := hp M) rfl (fun hc => ?_) (fun hc => ?_)
      · replace h := (if_pos hc).symm.trans h
        refine am_Y.run (k := 2) (pc' := 18) (lv' := [(3, .int (x3 + (6 : Int32))), (0, .ref 0), (1, .ref 5), (2, .ref 129)]) (st' := []) (h' := hp M) rfl ?_
        refine am_Y.weak (lv2 := [(0, .ref 0), (1, .ref 5), (2, .ref 129), (3, .int (x3 + (6 : Int32)))]) rfl rfl ⟨rfl, rfl, rfl, rfl, trivial⟩ ?_
        exact hK18 (x3 + (6 : Int32)) M _ _ h
      · replace h := (if_neg hc).symm.trans h
        refine am_Y.run (k := 1) (pc' := 795) (lv' := [(0, .ref 0), (1, .ref 5), (2, .ref 129), (3, .int x3)]) (st' := [.int (0 : Int32)]) (h' := hp M) rfl ?_
        obtain ⟨rfl, rfl⟩ := Prod.mk.inj (Option.some.inj h)
        exact am_Y.ret rfl
  · replace h := (if_neg hc).symm.trans h
    refine am_Y.run (k := 2) (pc' := 760) (lv' := [(0, .ref 0), (1, .ref 5), (2, .ref 129), (3, .int x3)]) (st' := [.int (1 : Int32), .int (S.2 ((x3 + (2 : Int32))).toNatClampNeg), .int (S.2 ((x3 + (1 : Int32))).toNatClampNeg), .ref 5]) (h' := hp M) rfl ?_
    obtain ⟨q84, e_q84, h⟩ := Option.bind_eq_some_iff.mp h
    refine am_Y.call0 (M' := am_M38) (as := [.ref 5, .int (S.2 ((x3 + (1 : Int32))).toNatClampNeg), .int (S.2 ((x3 + (2 : Int32))).toNatClampNeg), .int (1 : Int32)]) (rest := []) (d' := 3) rfl (by omega) rfl rfl (t_w_inherits N (S.2 ((x3 + (1 : Int32))).toNatClampNeg) (S.2 ((x3 + (2 : Int32))).toNatClampNeg) (1 : Int32) M q84 e_q84) ?_
    refine am_Y.run (k := 5) (pc' := 768) (lv' := [(0, .ref 0), (1, .ref 5), (2, .ref 129), (3, .int x3)]) (st' := [.int (x3 + (1 : Int32)), .ref 0, .ref 129, .long q84]) (h' := hp M) rfl ?_
    obtain ⟨g, h⟩ := am_itg h
    refine am_Y.sald rfl g ?_
    refine am_Y.run (k := 4) (pc' := 773) (lv' := [(0, .ref 0), (1, .ref 5), (2, .ref 129), (3, .int x3)]) (st' := [.int (x3 + (2 : Int32)), .ref 0, .int (S.2 ((x3 + (1 : Int32))).toNatClampNeg), .ref 129, .long q84]) (h' := hp M) rfl ?_
    obtain ⟨g, h⟩ := am_itg h
    refine am_Y.sald rfl g ?_
    refine am_Y.run (k := 4) (pc' := 778) (lv' := [(0, .ref 0), (1, .ref 5), (2, .ref 129), (3, .int x3)]) (st' := [.int (x3 + (3 : Int32)), .ref 0, .int (S.2 ((x3 + (2 : Int32))).toNatClampNeg), .int (S.2 ((x3 + (1 : Int32))).toNatClampNeg), .ref 129, .long q84]) (h' := hp M) rfl ?_
    obtain ⟨g, h⟩ := am_itg h
    refine am_Y.sald rfl g ?_
    refine am_Y.br (c := (S.2 ((x3 + (3 : Int32))).toNatClampNeg) = (0 : Int32)) _ (t := 786) (u := 782) (lv' := [(0, .ref 0), (1, .ref 5), (2, .ref 129), (3, .int x3)]) (st' := [.int (S.2 ((x3 + (2 : Int32))).toNatClampNeg), .int (S.2 ((x3 + (1 : Int32))).toNatClampNeg), .ref 129, .long q84]) (h' := hp M) rfl (fun hc => ?_) (fun hc => ?_)
    · replace h := (if_pos hc).symm.trans h
      refine am_Y.run (k := 1) (pc' := 787) (lv' := [(0, .ref 0), (1, .ref 5), (2, .ref 129), (3, .int x3)]) (st' := [.int (0 : Int32), .int (S.2 ((x3 + (2 : Int32))).toNatClampNeg), .int (S.2 ((x3 + (1 : Int32))).toNatClampNeg), .ref 129, .long q84]) (h' := hp M) rfl ?_
      obtain ⟨q85, e_q85, h⟩ := Option.bind_eq_some_iff.mp h
      refine am_Y.call0 (M' := am_M39) (as := [.ref 129, .int (S.2 ((x3 + (1 : Int32))).toNatClampNeg), .int (S.2 ((x3 + (2 : Int32))).toNatClampNeg), .int (0 : Int32)]) (rest := [.long q84]) (d' := 4) rfl (by omega) rfl rfl (t_m_inherits N (S.2 ((x3 + (1 : Int32))).toNatClampNeg) (S.2 ((x3 + (2 : Int32))).toNatClampNeg) (0 : Int32) M q85 e_q85) ?_
      refine am_Y.run (k := 1) (pc' := 791) (lv' := [(0, .ref 0), (1, .ref 5), (2, .ref 129), (3, .int x3)]) (st' := [.int (lg_cmp q84 q85)]) (h' := hp M) rfl ?_
      refine am_Y.br (c := (lg_cmp q84 q85) = (0 : Int32)) _ (t := 1792) (u := 794) (lv' := [(0, .ref 0), (1, .ref 5), (2, .ref 129), (3, .int x3)]) (st' := []) (h' := hp M) rfl (fun hc => ?_) (fun hc => ?_)
      · replace h := (if_pos hc).symm.trans h
        refine am_Y.run (k := 2) (pc' := 18) (lv' := [(3, .int (x3 + (6 : Int32))), (0, .ref 0), (1, .ref 5), (2, .ref 129)]) (st' := []) (h' := hp M) rfl ?_
        refine am_Y.weak (lv2 := [(0, .ref 0), (1, .ref 5), (2, .ref 129), (3, .int (x3 + (6 : Int32)))]) rfl rfl ⟨rfl, rfl, rfl, rfl, trivial⟩ ?_
        exact hK18 (x3 + (6 : Int32)) M _ _ h
      · replace h := (if_neg hc).symm.trans h
        refine am_Y.run (k := 1) (pc' := 795) (lv' := [(0, .ref 0), (1, .ref 5), (2, .ref 129), (3, .int x3)]) (st' := [.int (0 : Int32)]) (h' := hp M) rfl ?_
        obtain ⟨rfl, rfl⟩ := Prod.mk.inj (Option.some.inj h)
        exact am_Y.ret rfl
    · replace h := (if_neg hc).symm.trans h
      refine am_Y.run (k := 2) (pc' := 787) (lv' := [(0, .ref 0), (1, .ref 5), (2, .ref 129), (3, .int x3)]) (st' := [.int (1 : Int32), .int (S.2 ((x3 + (2 : Int32))).toNatClampNeg), .int (S.2 ((x3 + (1 : Int32))).toNatClampNeg), .ref 129, .long q84]) (h' := hp M) rfl ?_
      obtain ⟨q86, e_q86, h⟩ := Option.bind_eq_some_iff.mp h
      refine am_Y.call0 (M' := am_M39) (as := [.ref 129, .int (S.2 ((x3 + (1 : Int32))).toNatClampNeg), .int (S.2 ((x3 + (2 : Int32))).toNatClampNeg), .int (1 : Int32)]) (rest := [.long q84]) (d' := 4) rfl (by omega) rfl rfl (t_m_inherits N (S.2 ((x3 + (1 : Int32))).toNatClampNeg) (S.2 ((x3 + (2 : Int32))).toNatClampNeg) (1 : Int32) M q86 e_q86) ?_
      refine am_Y.run (k := 1) (pc' := 791) (lv' := [(0, .ref 0), (1, .ref 5), (2, .ref 129), (3, .int x3)]) (st' := [.int (lg_cmp q84 q86)]) (h' := hp M) rfl ?_
      refine am_Y.br (c := (lg_cmp q84 q86) = (0 : Int32)) _ (t := 1792) (u := 794) (lv' := [(0, .ref 0), (1, .ref 5), (2, .ref 129), (3, .int x3)]) (st' := []) (h' := hp M) rfl (fun hc => ?_) (fun hc => ?_)
      · replace h := (if_pos hc).symm.trans h
        refine am_Y.run (k := 2) (pc' := 18) (lv' := [(3, .int (x3 + (6 : Int32))), (0, .ref 0), (1, .ref 5), (2, .ref 129)]) (st' := []) (h' := hp M) rfl ?_
        refine am_Y.weak (lv2 := [(0, .ref 0), (1, .ref 5), (2, .ref 129), (3, .int (x3 + (6 : Int32)))]) rfl rfl ⟨rfl, rfl, rfl, rfl, trivial⟩ ?_
        exact hK18 (x3 + (6 : Int32)) M _ _ h
      · replace h := (if_neg hc).symm.trans h
        refine am_Y.run (k := 1) (pc' := 795) (lv' := [(0, .ref 0), (1, .ref 5), (2, .ref 129), (3, .int x3)]) (st' := [.int (0 : Int32)]) (h' := hp M) rfl ?_
        obtain ⟨rfl, rfl⟩ := Prod.mk.inj (Option.some.inj h)
        exact am_Y.ret rfl
set_option maxRecDepth 100000 in
theorem t_law_796 {S : Nat × (Nat → Int32)} (N : Nat) (K18 : Int32 → Mem → Option (Int32 × Mem)) (hK18 : ∀ (x3 : Int32) (M : Mem) (r : Int32) (M' : Mem), K18 x3 M = some (r, M') → am_Y S 68 0 0 am_ML 18 [(0, .ref 0), (1, .ref 5), (2, .ref 129), (3, .int x3)] [] (hp M) (some (.int r)) (hp M')) (x3 : Int32) (M : Mem) (r : Int32) (M' : Mem) (h : f_law_796 S N K18 x3 M = some (r, M')) : am_Y S 68 0 0 am_ML 796 [(0, .ref 0), (1, .ref 5), (2, .ref 129), (3, .int x3)] [] (hp M) (some (.int r)) (hp M') := by
  rw [f_law_796] at h
  refine am_Y.run (k := 5) (pc' := 801) (lv' := [(0, .ref 0), (1, .ref 5), (2, .ref 129), (3, .int x3)]) (st' := [.int (x3 + (1 : Int32)), .ref 0, .ref 5]) (h' := hp M) rfl ?_
  obtain ⟨g, h⟩ := am_itg h
  refine am_Y.sald rfl g ?_
  refine am_Y.run (k := 4) (pc' := 806) (lv' := [(0, .ref 0), (1, .ref 5), (2, .ref 129), (3, .int x3)]) (st' := [.int (x3 + (2 : Int32)), .ref 0, .int (S.2 ((x3 + (1 : Int32))).toNatClampNeg), .ref 5]) (h' := hp M) rfl ?_
  obtain ⟨g, h⟩ := am_itg h
  refine am_Y.sald rfl g ?_
  refine am_Y.br (c := (S.2 ((x3 + (2 : Int32))).toNatClampNeg) = (0 : Int32)) _ (t := 814) (u := 810) (lv' := [(0, .ref 0), (1, .ref 5), (2, .ref 129), (3, .int x3)]) (st' := [.int (S.2 ((x3 + (1 : Int32))).toNatClampNeg), .ref 5]) (h' := hp M) rfl (fun hc => ?_) (fun hc => ?_)
  · replace h := (if_pos hc).symm.trans h
    refine am_Y.run (k := 1) (pc' := 815) (lv' := [(0, .ref 0), (1, .ref 5), (2, .ref 129), (3, .int x3)]) (st' := [.int (0 : Int32), .int (S.2 ((x3 + (1 : Int32))).toNatClampNeg), .ref 5]) (h' := hp M) rfl ?_
    obtain ⟨q75, e_q75, h⟩ := Option.bind_eq_some_iff.mp h
    refine am_Y.call0 (M' := am_M40) (as := [.ref 5, .int (S.2 ((x3 + (1 : Int32))).toNatClampNeg), .int (0 : Int32)]) (rest := []) (d' := 3) rfl (by omega) rfl rfl (t_w_open N (S.2 ((x3 + (1 : Int32))).toNatClampNeg) (0 : Int32) M q75 e_q75) ?_
    refine am_Y.run (k := 5) (pc' := 823) (lv' := [(0, .ref 0), (1, .ref 5), (2, .ref 129), (3, .int x3)]) (st' := [.int (x3 + (1 : Int32)), .ref 0, .ref 129, .long q75]) (h' := hp M) rfl ?_
    obtain ⟨g, h⟩ := am_itg h
    refine am_Y.sald rfl g ?_
    refine am_Y.run (k := 4) (pc' := 828) (lv' := [(0, .ref 0), (1, .ref 5), (2, .ref 129), (3, .int x3)]) (st' := [.int (x3 + (2 : Int32)), .ref 0, .int (S.2 ((x3 + (1 : Int32))).toNatClampNeg), .ref 129, .long q75]) (h' := hp M) rfl ?_
    obtain ⟨g, h⟩ := am_itg h
    refine am_Y.sald rfl g ?_
    refine am_Y.br (c := (S.2 ((x3 + (2 : Int32))).toNatClampNeg) = (0 : Int32)) _ (t := 836) (u := 832) (lv' := [(0, .ref 0), (1, .ref 5), (2, .ref 129), (3, .int x3)]) (st' := [.int (S.2 ((x3 + (1 : Int32))).toNatClampNeg), .ref 129, .long q75]) (h' := hp M) rfl (fun hc => ?_) (fun hc => ?_)
    · replace h := (if_pos hc).symm.trans h
      refine am_Y.run (k := 1) (pc' := 837) (lv' := [(0, .ref 0), (1, .ref 5), (2, .ref 129), (3, .int x3)]) (st' := [.int (0 : Int32), .int (S.2 ((x3 + (1 : Int32))).toNatClampNeg), .ref 129, .long q75]) (h' := hp M) rfl ?_
      obtain ⟨q76, e_q76, h⟩ := Option.bind_eq_some_iff.mp h
      refine am_Y.call0 (M' := am_M41) (as := [.ref 129, .int (S.2 ((x3 + (1 : Int32))).toNatClampNeg), .int (0 : Int32)]) (rest := [.long q75]) (d' := 4) rfl (by omega) rfl rfl (t_m_open N (S.2 ((x3 + (1 : Int32))).toNatClampNeg) (0 : Int32) M q76 e_q76) ?_
      refine am_Y.run (k := 1) (pc' := 841) (lv' := [(0, .ref 0), (1, .ref 5), (2, .ref 129), (3, .int x3)]) (st' := [.int (lg_cmp q75 q76)]) (h' := hp M) rfl ?_
      refine am_Y.br (c := (lg_cmp q75 q76) = (0 : Int32)) _ (t := 1792) (u := 844) (lv' := [(0, .ref 0), (1, .ref 5), (2, .ref 129), (3, .int x3)]) (st' := []) (h' := hp M) rfl (fun hc => ?_) (fun hc => ?_)
      · replace h := (if_pos hc).symm.trans h
        refine am_Y.run (k := 2) (pc' := 18) (lv' := [(3, .int (x3 + (6 : Int32))), (0, .ref 0), (1, .ref 5), (2, .ref 129)]) (st' := []) (h' := hp M) rfl ?_
        refine am_Y.weak (lv2 := [(0, .ref 0), (1, .ref 5), (2, .ref 129), (3, .int (x3 + (6 : Int32)))]) rfl rfl ⟨rfl, rfl, rfl, rfl, trivial⟩ ?_
        exact hK18 (x3 + (6 : Int32)) M _ _ h
      · replace h := (if_neg hc).symm.trans h
        refine am_Y.run (k := 1) (pc' := 845) (lv' := [(0, .ref 0), (1, .ref 5), (2, .ref 129), (3, .int x3)]) (st' := [.int (0 : Int32)]) (h' := hp M) rfl ?_
        obtain ⟨rfl, rfl⟩ := Prod.mk.inj (Option.some.inj h)
        exact am_Y.ret rfl
    · replace h := (if_neg hc).symm.trans h
      refine am_Y.run (k := 2) (pc' := 837) (lv' := [(0, .ref 0), (1, .ref 5), (2, .ref 129), (3, .int x3)]) (st' := [.int (1 : Int32), .int (S.2 ((x3 + (1 : Int32))).toNatClampNeg), .ref 129, .long q75]) (h' := hp M) rfl ?_
      obtain ⟨q77, e_q77, h⟩ := Option.bind_eq_some_iff.mp h
      refine am_Y.call0 (M' := am_M41) (as := [.ref 129, .int (S.2 ((x3 + (1 : Int32))).toNatClampNeg), .int (1 : Int32)]) (rest := [.long q75]) (d' := 4) rfl (by omega) rfl rfl (t_m_open N (S.2 ((x3 + (1 : Int32))).toNatClampNeg) (1 : Int32) M q77 e_q77) ?_
      refine am_Y.run (k := 1) (pc' := 841) (lv' := [(0, .ref 0), (1, .ref 5), (2, .ref 129), (3, .int x3)]) (st' := [.int (lg_cmp q75 q77)]) (h' := hp M) rfl ?_
      refine am_Y.br (c := (lg_cmp q75 q77) = (0 : Int32)) _ (t := 1792) (u := 844) (lv' := [(0, .ref 0), (1, .ref 5), (2, .ref 129), (3, .int x3)]) (st' := []) (h' := hp M) rfl (fun hc => ?_) (fun hc => ?_)
      · replace h := (if_pos hc).symm.trans h
        refine am_Y.run (k := 2) (pc' := 18) (lv' := [(3, .int (x3 + (6 : Int32))), (0, .ref 0), (1, .ref 5), (2, .ref 129)]) (st' := []) (h' := hp M) rfl ?_
        refine am_Y.weak (lv2 := [(0, .ref 0), (1, .ref 5), (2, .ref 129), (3, .int (x3 + (6 : Int32)))]) rfl rfl ⟨rfl, rfl, rfl, rfl, trivial⟩ ?_
        exact hK18 (x3 + (6 : Int32)) M _ _ h
      · replace h := (if_neg hc).symm.trans h
        refine am_Y.run (k := 1) (pc' := 845) (lv' := [(0, .ref 0), (1, .ref 5), (2, .ref 129), (3, .int x3)]) (st' := [.int (0 : Int32)]) (h' := hp M) rfl ?_
        obtain ⟨rfl, rfl⟩ := Prod.mk.inj (Option.some.inj h)
        exact am_Y.ret rfl
  · replace h := (if_neg hc).symm.trans h
    refine am_Y.run (k := 2) (pc' := 815) (lv' := [(0, .ref 0), (1, .ref 5), (2, .ref 129), (3, .int x3)]) (st' := [.int (1 : Int32), .int (S.2 ((x3 + (1 : Int32))).toNatClampNeg), .ref 5]) (h' := hp M) rfl ?_
    obtain ⟨q78, e_q78, h⟩ := Option.bind_eq_some_iff.mp h
    refine am_Y.call0 (M' := am_M40) (as := [.ref 5, .int (S.2 ((x3 + (1 : Int32))).toNatClampNeg), .int (1 : Int32)]) (rest := []) (d' := 3) rfl (by omega) rfl rfl (t_w_open N (S.2 ((x3 + (1 : Int32))).toNatClampNeg) (1 : Int32) M q78 e_q78) ?_
    refine am_Y.run (k := 5) (pc' := 823) (lv' := [(0, .ref 0), (1, .ref 5), (2, .ref 129), (3, .int x3)]) (st' := [.int (x3 + (1 : Int32)), .ref 0, .ref 129, .long q78]) (h' := hp M) rfl ?_
    obtain ⟨g, h⟩ := am_itg h
    refine am_Y.sald rfl g ?_
    refine am_Y.run (k := 4) (pc' := 828) (lv' := [(0, .ref 0), (1, .ref 5), (2, .ref 129), (3, .int x3)]) (st' := [.int (x3 + (2 : Int32)), .ref 0, .int (S.2 ((x3 + (1 : Int32))).toNatClampNeg), .ref 129, .long q78]) (h' := hp M) rfl ?_
    obtain ⟨g, h⟩ := am_itg h
    refine am_Y.sald rfl g ?_
    refine am_Y.br (c := (S.2 ((x3 + (2 : Int32))).toNatClampNeg) = (0 : Int32)) _ (t := 836) (u := 832) (lv' := [(0, .ref 0), (1, .ref 5), (2, .ref 129), (3, .int x3)]) (st' := [.int (S.2 ((x3 + (1 : Int32))).toNatClampNeg), .ref 129, .long q78]) (h' := hp M) rfl (fun hc => ?_) (fun hc => ?_)
    · replace h := (if_pos hc).symm.trans h
      refine am_Y.run (k := 1) (pc' := 837) (lv' := [(0, .ref 0), (1, .ref 5), (2, .ref 129), (3, .int x3)]) (st' := [.int (0 : Int32), .int (S.2 ((x3 + (1 : Int32))).toNatClampNeg), .ref 129, .long q78]) (h' := hp M) rfl ?_
      obtain ⟨q79, e_q79, h⟩ := Option.bind_eq_some_iff.mp h
      refine am_Y.call0 (M' := am_M41) (as := [.ref 129, .int (S.2 ((x3 + (1 : Int32))).toNatClampNeg), .int (0 : Int32)]) (rest := [.long q78]) (d' := 4) rfl (by omega) rfl rfl (t_m_open N (S.2 ((x3 + (1 : Int32))).toNatClampNeg) (0 : Int32) M q79 e_q79) ?_
      refine am_Y.run (k := 1) (pc' := 841) (lv' := [(0, .ref 0), (1, .ref 5), (2, .ref 129), (3, .int x3)]) (st' := [.int (lg_cmp q78 q79)]) (h' := hp M) rfl ?_
      refine am_Y.br (c := (lg_cmp q78 q79) = (0 : Int32)) _ (t := 1792) (u := 844) (lv' := [(0, .ref 0), (1, .ref 5), (2, .ref 129), (3, .int x3)]) (st' := []) (h' := hp M) rfl (fun hc => ?_) (fun hc => ?_)
      · replace h := (if_pos hc).symm.trans h
        refine am_Y.run (k := 2) (pc' := 18) (lv' := [(3, .int (x3 + (6 : Int32))), (0, .ref 0), (1, .ref 5), (2, .ref 129)]) (st' := []) (h' := hp M) rfl ?_
        refine am_Y.weak (lv2 := [(0, .ref 0), (1, .ref 5), (2, .ref 129), (3, .int (x3 + (6 : Int32)))]) rfl rfl ⟨rfl, rfl, rfl, rfl, trivial⟩ ?_
        exact hK18 (x3 + (6 : Int32)) M _ _ h
      · replace h := (if_neg hc).symm.trans h
        refine am_Y.run (k := 1) (pc' := 845) (lv' := [(0, .ref 0), (1, .ref 5), (2, .ref 129), (3, .int x3)]) (st' := [.int (0 : Int32)]) (h' := hp M) rfl ?_
        obtain ⟨rfl, rfl⟩ := Prod.mk.inj (Option.some.inj h)
        exact am_Y.ret rfl
    · replace h := (if_neg hc).symm.trans h
      refine am_Y.run (k := 2) (pc' := 837) (lv' := [(0, .ref 0), (1, .ref 5), (2, .ref 129), (3, .int x3)]) (st' := [.int (1 : Int32), .int (S.2 ((x3 + (1 : Int32))).toNatClampNeg), .ref 129, .long q78]) (h' := hp M) rfl ?_
      obtain ⟨q80, e_q80, h⟩ := Option.bind_eq_some_iff.mp h
      refine am_Y.call0 (M' := am_M41) (as := [.ref 129, .int (S.2 ((x3 + (1 : Int32))).toNatClampNeg), .int (1 : Int32)]) (rest := [.long q78]) (d' := 4) rfl (by omega) rfl rfl (t_m_open N (S.2 ((x3 + (1 : Int32))).toNatClampNeg) (1 : Int32) M q80 e_q80) ?_
      refine am_Y.run (k := 1) (pc' := 841) (lv' := [(0, .ref 0), (1, .ref 5), (2, .ref 129), (3, .int x3)]) (st' := [.int (lg_cmp q78 q80)]) (h' := hp M) rfl ?_
      refine am_Y.br (c := (lg_cmp q78 q80) = (0 : Int32)) _ (t := 1792) (u := 844) (lv' := [(0, .ref 0), (1, .ref 5), (2, .ref 129), (3, .int x3)]) (st' := []) (h' := hp M) rfl (fun hc => ?_) (fun hc => ?_)
      · replace h := (if_pos hc).symm.trans h
        refine am_Y.run (k := 2) (pc' := 18) (lv' := [(3, .int (x3 + (6 : Int32))), (0, .ref 0), (1, .ref 5), (2, .ref 129)]) (st' := []) (h' := hp M) rfl ?_
        refine am_Y.weak (lv2 := [(0, .ref 0), (1, .ref 5), (2, .ref 129), (3, .int (x3 + (6 : Int32)))]) rfl rfl ⟨rfl, rfl, rfl, rfl, trivial⟩ ?_
        exact hK18 (x3 + (6 : Int32)) M _ _ h
      · replace h := (if_neg hc).symm.trans h
        refine am_Y.run (k := 1) (pc' := 845) (lv' := [(0, .ref 0), (1, .ref 5), (2, .ref 129), (3, .int x3)]) (st' := [.int (0 : Int32)]) (h' := hp M) rfl ?_
        obtain ⟨rfl, rfl⟩ := Prod.mk.inj (Option.some.inj h)
        exact am_Y.ret rfl
set_option maxRecDepth 100000 in
theorem t_law_846 {S : Nat × (Nat → Int32)} (N : Nat) (K18 : Int32 → Mem → Option (Int32 × Mem)) (hK18 : ∀ (x3 : Int32) (M : Mem) (r : Int32) (M' : Mem), K18 x3 M = some (r, M') → am_Y S 68 0 0 am_ML 18 [(0, .ref 0), (1, .ref 5), (2, .ref 129), (3, .int x3)] [] (hp M) (some (.int r)) (hp M')) (x3 : Int32) (M : Mem) (r : Int32) (M' : Mem) (h : f_law_846 S N K18 x3 M = some (r, M')) : am_Y S 68 0 0 am_ML 846 [(0, .ref 0), (1, .ref 5), (2, .ref 129), (3, .int x3)] [] (hp M) (some (.int r)) (hp M') := by
  rw [f_law_846] at h
  refine am_Y.run (k := 5) (pc' := 851) (lv' := [(0, .ref 0), (1, .ref 5), (2, .ref 129), (3, .int x3)]) (st' := [.int (x3 + (1 : Int32)), .ref 0, .ref 5]) (h' := hp M) rfl ?_
  obtain ⟨g, h⟩ := am_itg h
  refine am_Y.sald rfl g ?_
  refine am_Y.run (k := 4) (pc' := 856) (lv' := [(0, .ref 0), (1, .ref 5), (2, .ref 129), (3, .int x3)]) (st' := [.int (x3 + (2 : Int32)), .ref 0, .int (S.2 ((x3 + (1 : Int32))).toNatClampNeg), .ref 5]) (h' := hp M) rfl ?_
  obtain ⟨g, h⟩ := am_itg h
  refine am_Y.sald rfl g ?_
  refine am_Y.run (k := 4) (pc' := 861) (lv' := [(0, .ref 0), (1, .ref 5), (2, .ref 129), (3, .int x3)]) (st' := [.int (x3 + (3 : Int32)), .ref 0, .int (S.2 ((x3 + (2 : Int32))).toNatClampNeg), .int (S.2 ((x3 + (1 : Int32))).toNatClampNeg), .ref 5]) (h' := hp M) rfl ?_
  obtain ⟨g, h⟩ := am_itg h
  refine am_Y.sald rfl g ?_
  refine am_Y.run (k := 4) (pc' := 866) (lv' := [(0, .ref 0), (1, .ref 5), (2, .ref 129), (3, .int x3)]) (st' := [.int (x3 + (4 : Int32)), .ref 0, .int (S.2 ((x3 + (3 : Int32))).toNatClampNeg), .int (S.2 ((x3 + (2 : Int32))).toNatClampNeg), .int (S.2 ((x3 + (1 : Int32))).toNatClampNeg), .ref 5]) (h' := hp M) rfl ?_
  obtain ⟨g, h⟩ := am_itg h
  refine am_Y.sald rfl g ?_
  refine am_Y.br (c := (S.2 ((x3 + (4 : Int32))).toNatClampNeg) = (0 : Int32)) _ (t := 874) (u := 870) (lv' := [(0, .ref 0), (1, .ref 5), (2, .ref 129), (3, .int x3)]) (st' := [.int (S.2 ((x3 + (3 : Int32))).toNatClampNeg), .int (S.2 ((x3 + (2 : Int32))).toNatClampNeg), .int (S.2 ((x3 + (1 : Int32))).toNatClampNeg), .ref 5]) (h' := hp M) rfl (fun hc => ?_) (fun hc => ?_)
  · replace h := (if_pos hc).symm.trans h
    refine am_Y.run (k := 1) (pc' := 875) (lv' := [(0, .ref 0), (1, .ref 5), (2, .ref 129), (3, .int x3)]) (st' := [.int (0 : Int32), .int (S.2 ((x3 + (3 : Int32))).toNatClampNeg), .int (S.2 ((x3 + (2 : Int32))).toNatClampNeg), .int (S.2 ((x3 + (1 : Int32))).toNatClampNeg), .ref 5]) (h' := hp M) rfl ?_
    obtain ⟨q69, e_q69, h⟩ := Option.bind_eq_some_iff.mp h
    refine am_Y.call0 (M' := am_M42) (as := [.ref 5, .int (S.2 ((x3 + (1 : Int32))).toNatClampNeg), .int (S.2 ((x3 + (2 : Int32))).toNatClampNeg), .int (S.2 ((x3 + (3 : Int32))).toNatClampNeg), .int (0 : Int32)]) (rest := []) (d' := 3) rfl (by omega) rfl rfl (t_w_thatNight N (S.2 ((x3 + (1 : Int32))).toNatClampNeg) (S.2 ((x3 + (2 : Int32))).toNatClampNeg) (S.2 ((x3 + (3 : Int32))).toNatClampNeg) (0 : Int32) M q69 e_q69) ?_
    refine am_Y.run (k := 5) (pc' := 883) (lv' := [(0, .ref 0), (1, .ref 5), (2, .ref 129), (3, .int x3)]) (st' := [.int (x3 + (1 : Int32)), .ref 0, .ref 129, .long q69]) (h' := hp M) rfl ?_
    obtain ⟨g, h⟩ := am_itg h
    refine am_Y.sald rfl g ?_
    refine am_Y.run (k := 4) (pc' := 888) (lv' := [(0, .ref 0), (1, .ref 5), (2, .ref 129), (3, .int x3)]) (st' := [.int (x3 + (2 : Int32)), .ref 0, .int (S.2 ((x3 + (1 : Int32))).toNatClampNeg), .ref 129, .long q69]) (h' := hp M) rfl ?_
    obtain ⟨g, h⟩ := am_itg h
    refine am_Y.sald rfl g ?_
    refine am_Y.run (k := 4) (pc' := 893) (lv' := [(0, .ref 0), (1, .ref 5), (2, .ref 129), (3, .int x3)]) (st' := [.int (x3 + (3 : Int32)), .ref 0, .int (S.2 ((x3 + (2 : Int32))).toNatClampNeg), .int (S.2 ((x3 + (1 : Int32))).toNatClampNeg), .ref 129, .long q69]) (h' := hp M) rfl ?_
    obtain ⟨g, h⟩ := am_itg h
    refine am_Y.sald rfl g ?_
    refine am_Y.run (k := 4) (pc' := 898) (lv' := [(0, .ref 0), (1, .ref 5), (2, .ref 129), (3, .int x3)]) (st' := [.int (x3 + (4 : Int32)), .ref 0, .int (S.2 ((x3 + (3 : Int32))).toNatClampNeg), .int (S.2 ((x3 + (2 : Int32))).toNatClampNeg), .int (S.2 ((x3 + (1 : Int32))).toNatClampNeg), .ref 129, .long q69]) (h' := hp M) rfl ?_
    obtain ⟨g, h⟩ := am_itg h
    refine am_Y.sald rfl g ?_
    refine am_Y.br (c := (S.2 ((x3 + (4 : Int32))).toNatClampNeg) = (0 : Int32)) _ (t := 906) (u := 902) (lv' := [(0, .ref 0), (1, .ref 5), (2, .ref 129), (3, .int x3)]) (st' := [.int (S.2 ((x3 + (3 : Int32))).toNatClampNeg), .int (S.2 ((x3 + (2 : Int32))).toNatClampNeg), .int (S.2 ((x3 + (1 : Int32))).toNatClampNeg), .ref 129, .long q69]) (h' := hp M) rfl (fun hc => ?_) (fun hc => ?_)
    · replace h := (if_pos hc).symm.trans h
      refine am_Y.run (k := 1) (pc' := 907) (lv' := [(0, .ref 0), (1, .ref 5), (2, .ref 129), (3, .int x3)]) (st' := [.int (0 : Int32), .int (S.2 ((x3 + (3 : Int32))).toNatClampNeg), .int (S.2 ((x3 + (2 : Int32))).toNatClampNeg), .int (S.2 ((x3 + (1 : Int32))).toNatClampNeg), .ref 129, .long q69]) (h' := hp M) rfl ?_
      obtain ⟨q70, e_q70, h⟩ := Option.bind_eq_some_iff.mp h
      refine am_Y.call0 (M' := am_M43) (as := [.ref 129, .int (S.2 ((x3 + (1 : Int32))).toNatClampNeg), .int (S.2 ((x3 + (2 : Int32))).toNatClampNeg), .int (S.2 ((x3 + (3 : Int32))).toNatClampNeg), .int (0 : Int32)]) (rest := [.long q69]) (d' := 4) rfl (by omega) rfl rfl (t_m_thatNight N (S.2 ((x3 + (1 : Int32))).toNatClampNeg) (S.2 ((x3 + (2 : Int32))).toNatClampNeg) (S.2 ((x3 + (3 : Int32))).toNatClampNeg) (0 : Int32) M q70 e_q70) ?_
      refine am_Y.run (k := 1) (pc' := 911) (lv' := [(0, .ref 0), (1, .ref 5), (2, .ref 129), (3, .int x3)]) (st' := [.int (lg_cmp q69 q70)]) (h' := hp M) rfl ?_
      refine am_Y.br (c := (lg_cmp q69 q70) = (0 : Int32)) _ (t := 1792) (u := 914) (lv' := [(0, .ref 0), (1, .ref 5), (2, .ref 129), (3, .int x3)]) (st' := []) (h' := hp M) rfl (fun hc => ?_) (fun hc => ?_)
      · replace h := (if_pos hc).symm.trans h
        refine am_Y.run (k := 2) (pc' := 18) (lv' := [(3, .int (x3 + (6 : Int32))), (0, .ref 0), (1, .ref 5), (2, .ref 129)]) (st' := []) (h' := hp M) rfl ?_
        refine am_Y.weak (lv2 := [(0, .ref 0), (1, .ref 5), (2, .ref 129), (3, .int (x3 + (6 : Int32)))]) rfl rfl ⟨rfl, rfl, rfl, rfl, trivial⟩ ?_
        exact hK18 (x3 + (6 : Int32)) M _ _ h
      · replace h := (if_neg hc).symm.trans h
        refine am_Y.run (k := 1) (pc' := 915) (lv' := [(0, .ref 0), (1, .ref 5), (2, .ref 129), (3, .int x3)]) (st' := [.int (0 : Int32)]) (h' := hp M) rfl ?_
        obtain ⟨rfl, rfl⟩ := Prod.mk.inj (Option.some.inj h)
        exact am_Y.ret rfl
    · replace h := (if_neg hc).symm.trans h
      refine am_Y.run (k := 2) (pc' := 907) (lv' := [(0, .ref 0), (1, .ref 5), (2, .ref 129), (3, .int x3)]) (st' := [.int (1 : Int32), .int (S.2 ((x3 + (3 : Int32))).toNatClampNeg), .int (S.2 ((x3 + (2 : Int32))).toNatClampNeg), .int (S.2 ((x3 + (1 : Int32))).toNatClampNeg), .ref 129, .long q69]) (h' := hp M) rfl ?_
      obtain ⟨q71, e_q71, h⟩ := Option.bind_eq_some_iff.mp h
      refine am_Y.call0 (M' := am_M43) (as := [.ref 129, .int (S.2 ((x3 + (1 : Int32))).toNatClampNeg), .int (S.2 ((x3 + (2 : Int32))).toNatClampNeg), .int (S.2 ((x3 + (3 : Int32))).toNatClampNeg), .int (1 : Int32)]) (rest := [.long q69]) (d' := 4) rfl (by omega) rfl rfl (t_m_thatNight N (S.2 ((x3 + (1 : Int32))).toNatClampNeg) (S.2 ((x3 + (2 : Int32))).toNatClampNeg) (S.2 ((x3 + (3 : Int32))).toNatClampNeg) (1 : Int32) M q71 e_q71) ?_
      refine am_Y.run (k := 1) (pc' := 911) (lv' := [(0, .ref 0), (1, .ref 5), (2, .ref 129), (3, .int x3)]) (st' := [.int (lg_cmp q69 q71)]) (h' := hp M) rfl ?_
      refine am_Y.br (c := (lg_cmp q69 q71) = (0 : Int32)) _ (t := 1792) (u := 914) (lv' := [(0, .ref 0), (1, .ref 5), (2, .ref 129), (3, .int x3)]) (st' := []) (h' := hp M) rfl (fun hc => ?_) (fun hc => ?_)
      · replace h := (if_pos hc).symm.trans h
        refine am_Y.run (k := 2) (pc' := 18) (lv' := [(3, .int (x3 + (6 : Int32))), (0, .ref 0), (1, .ref 5), (2, .ref 129)]) (st' := []) (h' := hp M) rfl ?_
        refine am_Y.weak (lv2 := [(0, .ref 0), (1, .ref 5), (2, .ref 129), (3, .int (x3 + (6 : Int32)))]) rfl rfl ⟨rfl, rfl, rfl, rfl, trivial⟩ ?_
        exact hK18 (x3 + (6 : Int32)) M _ _ h
      · replace h := (if_neg hc).symm.trans h
        refine am_Y.run (k := 1) (pc' := 915) (lv' := [(0, .ref 0), (1, .ref 5), (2, .ref 129), (3, .int x3)]) (st' := [.int (0 : Int32)]) (h' := hp M) rfl ?_
        obtain ⟨rfl, rfl⟩ := Prod.mk.inj (Option.some.inj h)
        exact am_Y.ret rfl
  · replace h := (if_neg hc).symm.trans h
    refine am_Y.run (k := 2) (pc' := 875) (lv' := [(0, .ref 0), (1, .ref 5), (2, .ref 129), (3, .int x3)]) (st' := [.int (1 : Int32), .int (S.2 ((x3 + (3 : Int32))).toNatClampNeg), .int (S.2 ((x3 + (2 : Int32))).toNatClampNeg), .int (S.2 ((x3 + (1 : Int32))).toNatClampNeg), .ref 5]) (h' := hp M) rfl ?_
    obtain ⟨q72, e_q72, h⟩ := Option.bind_eq_some_iff.mp h
    refine am_Y.call0 (M' := am_M42) (as := [.ref 5, .int (S.2 ((x3 + (1 : Int32))).toNatClampNeg), .int (S.2 ((x3 + (2 : Int32))).toNatClampNeg), .int (S.2 ((x3 + (3 : Int32))).toNatClampNeg), .int (1 : Int32)]) (rest := []) (d' := 3) rfl (by omega) rfl rfl (t_w_thatNight N (S.2 ((x3 + (1 : Int32))).toNatClampNeg) (S.2 ((x3 + (2 : Int32))).toNatClampNeg) (S.2 ((x3 + (3 : Int32))).toNatClampNeg) (1 : Int32) M q72 e_q72) ?_
    refine am_Y.run (k := 5) (pc' := 883) (lv' := [(0, .ref 0), (1, .ref 5), (2, .ref 129), (3, .int x3)]) (st' := [.int (x3 + (1 : Int32)), .ref 0, .ref 129, .long q72]) (h' := hp M) rfl ?_
    obtain ⟨g, h⟩ := am_itg h
    refine am_Y.sald rfl g ?_
    refine am_Y.run (k := 4) (pc' := 888) (lv' := [(0, .ref 0), (1, .ref 5), (2, .ref 129), (3, .int x3)]) (st' := [.int (x3 + (2 : Int32)), .ref 0, .int (S.2 ((x3 + (1 : Int32))).toNatClampNeg), .ref 129, .long q72]) (h' := hp M) rfl ?_
    obtain ⟨g, h⟩ := am_itg h
    refine am_Y.sald rfl g ?_
    refine am_Y.run (k := 4) (pc' := 893) (lv' := [(0, .ref 0), (1, .ref 5), (2, .ref 129), (3, .int x3)]) (st' := [.int (x3 + (3 : Int32)), .ref 0, .int (S.2 ((x3 + (2 : Int32))).toNatClampNeg), .int (S.2 ((x3 + (1 : Int32))).toNatClampNeg), .ref 129, .long q72]) (h' := hp M) rfl ?_
    obtain ⟨g, h⟩ := am_itg h
    refine am_Y.sald rfl g ?_
    refine am_Y.run (k := 4) (pc' := 898) (lv' := [(0, .ref 0), (1, .ref 5), (2, .ref 129), (3, .int x3)]) (st' := [.int (x3 + (4 : Int32)), .ref 0, .int (S.2 ((x3 + (3 : Int32))).toNatClampNeg), .int (S.2 ((x3 + (2 : Int32))).toNatClampNeg), .int (S.2 ((x3 + (1 : Int32))).toNatClampNeg), .ref 129, .long q72]) (h' := hp M) rfl ?_
    obtain ⟨g, h⟩ := am_itg h
    refine am_Y.sald rfl g ?_
    refine am_Y.br (c := (S.2 ((x3 + (4 : Int32))).toNatClampNeg) = (0 : Int32)) _ (t := 906) (u := 902) (lv' := [(0, .ref 0), (1, .ref 5), (2, .ref 129), (3, .int x3)]) (st' := [.int (S.2 ((x3 + (3 : Int32))).toNatClampNeg), .int (S.2 ((x3 + (2 : Int32))).toNatClampNeg), .int (S.2 ((x3 + (1 : Int32))).toNatClampNeg), .ref 129, .long q72]) (h' := hp M) rfl (fun hc => ?_) (fun hc => ?_)
    · replace h := (if_pos hc).symm.trans h
      refine am_Y.run (k := 1) (pc' := 907) (lv' := [(0, .ref 0), (1, .ref 5), (2, .ref 129), (3, .int x3)]) (st' := [.int (0 : Int32), .int (S.2 ((x3 + (3 : Int32))).toNatClampNeg), .int (S.2 ((x3 + (2 : Int32))).toNatClampNeg), .int (S.2 ((x3 + (1 : Int32))).toNatClampNeg), .ref 129, .long q72]) (h' := hp M) rfl ?_
      obtain ⟨q73, e_q73, h⟩ := Option.bind_eq_some_iff.mp h
      refine am_Y.call0 (M' := am_M43) (as := [.ref 129, .int (S.2 ((x3 + (1 : Int32))).toNatClampNeg), .int (S.2 ((x3 + (2 : Int32))).toNatClampNeg), .int (S.2 ((x3 + (3 : Int32))).toNatClampNeg), .int (0 : Int32)]) (rest := [.long q72]) (d' := 4) rfl (by omega) rfl rfl (t_m_thatNight N (S.2 ((x3 + (1 : Int32))).toNatClampNeg) (S.2 ((x3 + (2 : Int32))).toNatClampNeg) (S.2 ((x3 + (3 : Int32))).toNatClampNeg) (0 : Int32) M q73 e_q73) ?_
      refine am_Y.run (k := 1) (pc' := 911) (lv' := [(0, .ref 0), (1, .ref 5), (2, .ref 129), (3, .int x3)]) (st' := [.int (lg_cmp q72 q73)]) (h' := hp M) rfl ?_
      refine am_Y.br (c := (lg_cmp q72 q73) = (0 : Int32)) _ (t := 1792) (u := 914) (lv' := [(0, .ref 0), (1, .ref 5), (2, .ref 129), (3, .int x3)]) (st' := []) (h' := hp M) rfl (fun hc => ?_) (fun hc => ?_)
      · replace h := (if_pos hc).symm.trans h
        refine am_Y.run (k := 2) (pc' := 18) (lv' := [(3, .int (x3 + (6 : Int32))), (0, .ref 0), (1, .ref 5), (2, .ref 129)]) (st' := []) (h' := hp M) rfl ?_
        refine am_Y.weak (lv2 := [(0, .ref 0), (1, .ref 5), (2, .ref 129), (3, .int (x3 + (6 : Int32)))]) rfl rfl ⟨rfl, rfl, rfl, rfl, trivial⟩ ?_
        exact hK18 (x3 + (6 : Int32)) M _ _ h
      · replace h := (if_neg hc).symm.trans h
        refine am_Y.run (k := 1) (pc' := 915) (lv' := [(0, .ref 0), (1, .ref 5), (2, .ref 129), (3, .int x3)]) (st' := [.int (0 : Int32)]) (h' := hp M) rfl ?_
        obtain ⟨rfl, rfl⟩ := Prod.mk.inj (Option.some.inj h)
        exact am_Y.ret rfl
    · replace h := (if_neg hc).symm.trans h
      refine am_Y.run (k := 2) (pc' := 907) (lv' := [(0, .ref 0), (1, .ref 5), (2, .ref 129), (3, .int x3)]) (st' := [.int (1 : Int32), .int (S.2 ((x3 + (3 : Int32))).toNatClampNeg), .int (S.2 ((x3 + (2 : Int32))).toNatClampNeg), .int (S.2 ((x3 + (1 : Int32))).toNatClampNeg), .ref 129, .long q72]) (h' := hp M) rfl ?_
      obtain ⟨q74, e_q74, h⟩ := Option.bind_eq_some_iff.mp h
      refine am_Y.call0 (M' := am_M43) (as := [.ref 129, .int (S.2 ((x3 + (1 : Int32))).toNatClampNeg), .int (S.2 ((x3 + (2 : Int32))).toNatClampNeg), .int (S.2 ((x3 + (3 : Int32))).toNatClampNeg), .int (1 : Int32)]) (rest := [.long q72]) (d' := 4) rfl (by omega) rfl rfl (t_m_thatNight N (S.2 ((x3 + (1 : Int32))).toNatClampNeg) (S.2 ((x3 + (2 : Int32))).toNatClampNeg) (S.2 ((x3 + (3 : Int32))).toNatClampNeg) (1 : Int32) M q74 e_q74) ?_
      refine am_Y.run (k := 1) (pc' := 911) (lv' := [(0, .ref 0), (1, .ref 5), (2, .ref 129), (3, .int x3)]) (st' := [.int (lg_cmp q72 q74)]) (h' := hp M) rfl ?_
      refine am_Y.br (c := (lg_cmp q72 q74) = (0 : Int32)) _ (t := 1792) (u := 914) (lv' := [(0, .ref 0), (1, .ref 5), (2, .ref 129), (3, .int x3)]) (st' := []) (h' := hp M) rfl (fun hc => ?_) (fun hc => ?_)
      · replace h := (if_pos hc).symm.trans h
        refine am_Y.run (k := 2) (pc' := 18) (lv' := [(3, .int (x3 + (6 : Int32))), (0, .ref 0), (1, .ref 5), (2, .ref 129)]) (st' := []) (h' := hp M) rfl ?_
        refine am_Y.weak (lv2 := [(0, .ref 0), (1, .ref 5), (2, .ref 129), (3, .int (x3 + (6 : Int32)))]) rfl rfl ⟨rfl, rfl, rfl, rfl, trivial⟩ ?_
        exact hK18 (x3 + (6 : Int32)) M _ _ h
      · replace h := (if_neg hc).symm.trans h
        refine am_Y.run (k := 1) (pc' := 915) (lv' := [(0, .ref 0), (1, .ref 5), (2, .ref 129), (3, .int x3)]) (st' := [.int (0 : Int32)]) (h' := hp M) rfl ?_
        obtain ⟨rfl, rfl⟩ := Prod.mk.inj (Option.some.inj h)
        exact am_Y.ret rfl
set_option maxRecDepth 100000 in
theorem t_law_916 {S : Nat × (Nat → Int32)} (N : Nat) (K18 : Int32 → Mem → Option (Int32 × Mem)) (hK18 : ∀ (x3 : Int32) (M : Mem) (r : Int32) (M' : Mem), K18 x3 M = some (r, M') → am_Y S 68 0 0 am_ML 18 [(0, .ref 0), (1, .ref 5), (2, .ref 129), (3, .int x3)] [] (hp M) (some (.int r)) (hp M')) (x3 : Int32) (M : Mem) (r : Int32) (M' : Mem) (h : f_law_916 S N K18 x3 M = some (r, M')) : am_Y S 68 0 0 am_ML 916 [(0, .ref 0), (1, .ref 5), (2, .ref 129), (3, .int x3)] [] (hp M) (some (.int r)) (hp M') := by
  rw [f_law_916] at h
  refine am_Y.run (k := 5) (pc' := 921) (lv' := [(0, .ref 0), (1, .ref 5), (2, .ref 129), (3, .int x3)]) (st' := [.int (x3 + (1 : Int32)), .ref 0, .ref 5]) (h' := hp M) rfl ?_
  obtain ⟨g, h⟩ := am_itg h
  refine am_Y.sald rfl g ?_
  refine am_Y.run (k := 4) (pc' := 926) (lv' := [(0, .ref 0), (1, .ref 5), (2, .ref 129), (3, .int x3)]) (st' := [.int (x3 + (2 : Int32)), .ref 0, .int (S.2 ((x3 + (1 : Int32))).toNatClampNeg), .ref 5]) (h' := hp M) rfl ?_
  obtain ⟨g, h⟩ := am_itg h
  refine am_Y.sald rfl g ?_
  refine am_Y.br (c := (S.2 ((x3 + (2 : Int32))).toNatClampNeg) = (0 : Int32)) _ (t := 934) (u := 930) (lv' := [(0, .ref 0), (1, .ref 5), (2, .ref 129), (3, .int x3)]) (st' := [.int (S.2 ((x3 + (1 : Int32))).toNatClampNeg), .ref 5]) (h' := hp M) rfl (fun hc => ?_) (fun hc => ?_)
  · replace h := (if_pos hc).symm.trans h
    refine am_Y.run (k := 1) (pc' := 935) (lv' := [(0, .ref 0), (1, .ref 5), (2, .ref 129), (3, .int x3)]) (st' := [.int (0 : Int32), .int (S.2 ((x3 + (1 : Int32))).toNatClampNeg), .ref 5]) (h' := hp M) rfl ?_
    obtain ⟨q63, e_q63, h⟩ := Option.bind_eq_some_iff.mp h
    refine am_Y.call0 (M' := am_M44) (as := [.ref 5, .int (S.2 ((x3 + (1 : Int32))).toNatClampNeg), .int (0 : Int32)]) (rest := []) (d' := 2) rfl (by omega) rfl rfl (t_w_tally N (S.2 ((x3 + (1 : Int32))).toNatClampNeg) (0 : Int32) M q63 e_q63) ?_
    refine am_Y.run (k := 5) (pc' := 943) (lv' := [(0, .ref 0), (1, .ref 5), (2, .ref 129), (3, .int x3)]) (st' := [.int (x3 + (1 : Int32)), .ref 0, .ref 129, .int q63]) (h' := hp M) rfl ?_
    obtain ⟨g, h⟩ := am_itg h
    refine am_Y.sald rfl g ?_
    refine am_Y.run (k := 4) (pc' := 948) (lv' := [(0, .ref 0), (1, .ref 5), (2, .ref 129), (3, .int x3)]) (st' := [.int (x3 + (2 : Int32)), .ref 0, .int (S.2 ((x3 + (1 : Int32))).toNatClampNeg), .ref 129, .int q63]) (h' := hp M) rfl ?_
    obtain ⟨g, h⟩ := am_itg h
    refine am_Y.sald rfl g ?_
    refine am_Y.br (c := (S.2 ((x3 + (2 : Int32))).toNatClampNeg) = (0 : Int32)) _ (t := 956) (u := 952) (lv' := [(0, .ref 0), (1, .ref 5), (2, .ref 129), (3, .int x3)]) (st' := [.int (S.2 ((x3 + (1 : Int32))).toNatClampNeg), .ref 129, .int q63]) (h' := hp M) rfl (fun hc => ?_) (fun hc => ?_)
    · replace h := (if_pos hc).symm.trans h
      refine am_Y.run (k := 1) (pc' := 957) (lv' := [(0, .ref 0), (1, .ref 5), (2, .ref 129), (3, .int x3)]) (st' := [.int (0 : Int32), .int (S.2 ((x3 + (1 : Int32))).toNatClampNeg), .ref 129, .int q63]) (h' := hp M) rfl ?_
      obtain ⟨q64, e_q64, h⟩ := Option.bind_eq_some_iff.mp h
      refine am_Y.call0 (M' := am_M45) (as := [.ref 129, .int (S.2 ((x3 + (1 : Int32))).toNatClampNeg), .int (0 : Int32)]) (rest := [.int q63]) (d' := 3) rfl (by omega) rfl rfl (t_m_tally N (S.2 ((x3 + (1 : Int32))).toNatClampNeg) (0 : Int32) M q64 e_q64) ?_
      refine am_Y.br (c := q63 = q64) _ (t := 1792) (u := 963) (lv' := [(0, .ref 0), (1, .ref 5), (2, .ref 129), (3, .int x3)]) (st' := []) (h' := hp M) rfl (fun hc => ?_) (fun hc => ?_)
      · replace h := (if_pos hc).symm.trans h
        refine am_Y.run (k := 2) (pc' := 18) (lv' := [(3, .int (x3 + (6 : Int32))), (0, .ref 0), (1, .ref 5), (2, .ref 129)]) (st' := []) (h' := hp M) rfl ?_
        refine am_Y.weak (lv2 := [(0, .ref 0), (1, .ref 5), (2, .ref 129), (3, .int (x3 + (6 : Int32)))]) rfl rfl ⟨rfl, rfl, rfl, rfl, trivial⟩ ?_
        exact hK18 (x3 + (6 : Int32)) M _ _ h
      · replace h := (if_neg hc).symm.trans h
        refine am_Y.run (k := 1) (pc' := 964) (lv' := [(0, .ref 0), (1, .ref 5), (2, .ref 129), (3, .int x3)]) (st' := [.int (0 : Int32)]) (h' := hp M) rfl ?_
        obtain ⟨rfl, rfl⟩ := Prod.mk.inj (Option.some.inj h)
        exact am_Y.ret rfl
    · replace h := (if_neg hc).symm.trans h
      refine am_Y.run (k := 2) (pc' := 957) (lv' := [(0, .ref 0), (1, .ref 5), (2, .ref 129), (3, .int x3)]) (st' := [.int (1 : Int32), .int (S.2 ((x3 + (1 : Int32))).toNatClampNeg), .ref 129, .int q63]) (h' := hp M) rfl ?_
      obtain ⟨q65, e_q65, h⟩ := Option.bind_eq_some_iff.mp h
      refine am_Y.call0 (M' := am_M45) (as := [.ref 129, .int (S.2 ((x3 + (1 : Int32))).toNatClampNeg), .int (1 : Int32)]) (rest := [.int q63]) (d' := 3) rfl (by omega) rfl rfl (t_m_tally N (S.2 ((x3 + (1 : Int32))).toNatClampNeg) (1 : Int32) M q65 e_q65) ?_
      refine am_Y.br (c := q63 = q65) _ (t := 1792) (u := 963) (lv' := [(0, .ref 0), (1, .ref 5), (2, .ref 129), (3, .int x3)]) (st' := []) (h' := hp M) rfl (fun hc => ?_) (fun hc => ?_)
      · replace h := (if_pos hc).symm.trans h
        refine am_Y.run (k := 2) (pc' := 18) (lv' := [(3, .int (x3 + (6 : Int32))), (0, .ref 0), (1, .ref 5), (2, .ref 129)]) (st' := []) (h' := hp M) rfl ?_
        refine am_Y.weak (lv2 := [(0, .ref 0), (1, .ref 5), (2, .ref 129), (3, .int (x3 + (6 : Int32)))]) rfl rfl ⟨rfl, rfl, rfl, rfl, trivial⟩ ?_
        exact hK18 (x3 + (6 : Int32)) M _ _ h
      · replace h := (if_neg hc).symm.trans h
        refine am_Y.run (k := 1) (pc' := 964) (lv' := [(0, .ref 0), (1, .ref 5), (2, .ref 129), (3, .int x3)]) (st' := [.int (0 : Int32)]) (h' := hp M) rfl ?_
        obtain ⟨rfl, rfl⟩ := Prod.mk.inj (Option.some.inj h)
        exact am_Y.ret rfl
  · replace h := (if_neg hc).symm.trans h
    refine am_Y.run (k := 2) (pc' := 935) (lv' := [(0, .ref 0), (1, .ref 5), (2, .ref 129), (3, .int x3)]) (st' := [.int (1 : Int32), .int (S.2 ((x3 + (1 : Int32))).toNatClampNeg), .ref 5]) (h' := hp M) rfl ?_
    obtain ⟨q66, e_q66, h⟩ := Option.bind_eq_some_iff.mp h
    refine am_Y.call0 (M' := am_M44) (as := [.ref 5, .int (S.2 ((x3 + (1 : Int32))).toNatClampNeg), .int (1 : Int32)]) (rest := []) (d' := 2) rfl (by omega) rfl rfl (t_w_tally N (S.2 ((x3 + (1 : Int32))).toNatClampNeg) (1 : Int32) M q66 e_q66) ?_
    refine am_Y.run (k := 5) (pc' := 943) (lv' := [(0, .ref 0), (1, .ref 5), (2, .ref 129), (3, .int x3)]) (st' := [.int (x3 + (1 : Int32)), .ref 0, .ref 129, .int q66]) (h' := hp M) rfl ?_
    obtain ⟨g, h⟩ := am_itg h
    refine am_Y.sald rfl g ?_
    refine am_Y.run (k := 4) (pc' := 948) (lv' := [(0, .ref 0), (1, .ref 5), (2, .ref 129), (3, .int x3)]) (st' := [.int (x3 + (2 : Int32)), .ref 0, .int (S.2 ((x3 + (1 : Int32))).toNatClampNeg), .ref 129, .int q66]) (h' := hp M) rfl ?_
    obtain ⟨g, h⟩ := am_itg h
    refine am_Y.sald rfl g ?_
    refine am_Y.br (c := (S.2 ((x3 + (2 : Int32))).toNatClampNeg) = (0 : Int32)) _ (t := 956) (u := 952) (lv' := [(0, .ref 0), (1, .ref 5), (2, .ref 129), (3, .int x3)]) (st' := [.int (S.2 ((x3 + (1 : Int32))).toNatClampNeg), .ref 129, .int q66]) (h' := hp M) rfl (fun hc => ?_) (fun hc => ?_)
    · replace h := (if_pos hc).symm.trans h
      refine am_Y.run (k := 1) (pc' := 957) (lv' := [(0, .ref 0), (1, .ref 5), (2, .ref 129), (3, .int x3)]) (st' := [.int (0 : Int32), .int (S.2 ((x3 + (1 : Int32))).toNatClampNeg), .ref 129, .int q66]) (h' := hp M) rfl ?_
      obtain ⟨q67, e_q67, h⟩ := Option.bind_eq_some_iff.mp h
      refine am_Y.call0 (M' := am_M45) (as := [.ref 129, .int (S.2 ((x3 + (1 : Int32))).toNatClampNeg), .int (0 : Int32)]) (rest := [.int q66]) (d' := 3) rfl (by omega) rfl rfl (t_m_tally N (S.2 ((x3 + (1 : Int32))).toNatClampNeg) (0 : Int32) M q67 e_q67) ?_
      refine am_Y.br (c := q66 = q67) _ (t := 1792) (u := 963) (lv' := [(0, .ref 0), (1, .ref 5), (2, .ref 129), (3, .int x3)]) (st' := []) (h' := hp M) rfl (fun hc => ?_) (fun hc => ?_)
      · replace h := (if_pos hc).symm.trans h
        refine am_Y.run (k := 2) (pc' := 18) (lv' := [(3, .int (x3 + (6 : Int32))), (0, .ref 0), (1, .ref 5), (2, .ref 129)]) (st' := []) (h' := hp M) rfl ?_
        refine am_Y.weak (lv2 := [(0, .ref 0), (1, .ref 5), (2, .ref 129), (3, .int (x3 + (6 : Int32)))]) rfl rfl ⟨rfl, rfl, rfl, rfl, trivial⟩ ?_
        exact hK18 (x3 + (6 : Int32)) M _ _ h
      · replace h := (if_neg hc).symm.trans h
        refine am_Y.run (k := 1) (pc' := 964) (lv' := [(0, .ref 0), (1, .ref 5), (2, .ref 129), (3, .int x3)]) (st' := [.int (0 : Int32)]) (h' := hp M) rfl ?_
        obtain ⟨rfl, rfl⟩ := Prod.mk.inj (Option.some.inj h)
        exact am_Y.ret rfl
    · replace h := (if_neg hc).symm.trans h
      refine am_Y.run (k := 2) (pc' := 957) (lv' := [(0, .ref 0), (1, .ref 5), (2, .ref 129), (3, .int x3)]) (st' := [.int (1 : Int32), .int (S.2 ((x3 + (1 : Int32))).toNatClampNeg), .ref 129, .int q66]) (h' := hp M) rfl ?_
      obtain ⟨q68, e_q68, h⟩ := Option.bind_eq_some_iff.mp h
      refine am_Y.call0 (M' := am_M45) (as := [.ref 129, .int (S.2 ((x3 + (1 : Int32))).toNatClampNeg), .int (1 : Int32)]) (rest := [.int q66]) (d' := 3) rfl (by omega) rfl rfl (t_m_tally N (S.2 ((x3 + (1 : Int32))).toNatClampNeg) (1 : Int32) M q68 e_q68) ?_
      refine am_Y.br (c := q66 = q68) _ (t := 1792) (u := 963) (lv' := [(0, .ref 0), (1, .ref 5), (2, .ref 129), (3, .int x3)]) (st' := []) (h' := hp M) rfl (fun hc => ?_) (fun hc => ?_)
      · replace h := (if_pos hc).symm.trans h
        refine am_Y.run (k := 2) (pc' := 18) (lv' := [(3, .int (x3 + (6 : Int32))), (0, .ref 0), (1, .ref 5), (2, .ref 129)]) (st' := []) (h' := hp M) rfl ?_
        refine am_Y.weak (lv2 := [(0, .ref 0), (1, .ref 5), (2, .ref 129), (3, .int (x3 + (6 : Int32)))]) rfl rfl ⟨rfl, rfl, rfl, rfl, trivial⟩ ?_
        exact hK18 (x3 + (6 : Int32)) M _ _ h
      · replace h := (if_neg hc).symm.trans h
        refine am_Y.run (k := 1) (pc' := 964) (lv' := [(0, .ref 0), (1, .ref 5), (2, .ref 129), (3, .int x3)]) (st' := [.int (0 : Int32)]) (h' := hp M) rfl ?_
        obtain ⟨rfl, rfl⟩ := Prod.mk.inj (Option.some.inj h)
        exact am_Y.ret rfl
set_option maxRecDepth 100000 in
theorem t_law_965 {S : Nat × (Nat → Int32)} (N : Nat) (K18 : Int32 → Mem → Option (Int32 × Mem)) (hK18 : ∀ (x3 : Int32) (M : Mem) (r : Int32) (M' : Mem), K18 x3 M = some (r, M') → am_Y S 68 0 0 am_ML 18 [(0, .ref 0), (1, .ref 5), (2, .ref 129), (3, .int x3)] [] (hp M) (some (.int r)) (hp M')) (x3 : Int32) (M : Mem) (r : Int32) (M' : Mem) (h : f_law_965 S N K18 x3 M = some (r, M')) : am_Y S 68 0 0 am_ML 965 [(0, .ref 0), (1, .ref 5), (2, .ref 129), (3, .int x3)] [] (hp M) (some (.int r)) (hp M') := by
  rw [f_law_965] at h
  refine am_Y.run (k := 5) (pc' := 970) (lv' := [(0, .ref 0), (1, .ref 5), (2, .ref 129), (3, .int x3)]) (st' := [.int (x3 + (1 : Int32)), .ref 0, .ref 5]) (h' := hp M) rfl ?_
  obtain ⟨g, h⟩ := am_itg h
  refine am_Y.sald rfl g ?_
  refine am_Y.br (c := (S.2 ((x3 + (1 : Int32))).toNatClampNeg) = (0 : Int32)) _ (t := 978) (u := 974) (lv' := [(0, .ref 0), (1, .ref 5), (2, .ref 129), (3, .int x3)]) (st' := [.ref 5]) (h' := hp M) rfl (fun hc => ?_) (fun hc => ?_)
  · replace h := (if_pos hc).symm.trans h
    refine am_Y.run (k := 1) (pc' := 979) (lv' := [(0, .ref 0), (1, .ref 5), (2, .ref 129), (3, .int x3)]) (st' := [.int (0 : Int32), .ref 5]) (h' := hp M) rfl ?_
    obtain ⟨q57, e_q57, h⟩ := Option.bind_eq_some_iff.mp h
    refine am_Y.call0 (M' := am_M46) (as := [.ref 5, .int (0 : Int32)]) (rest := []) (d' := 3) rfl (by omega) rfl rfl (t_w_longest N (0 : Int32) M q57 e_q57) ?_
    refine am_Y.run (k := 5) (pc' := 987) (lv' := [(0, .ref 0), (1, .ref 5), (2, .ref 129), (3, .int x3)]) (st' := [.int (x3 + (1 : Int32)), .ref 0, .ref 129, .int q57]) (h' := hp M) rfl ?_
    obtain ⟨g, h⟩ := am_itg h
    refine am_Y.sald rfl g ?_
    refine am_Y.br (c := (S.2 ((x3 + (1 : Int32))).toNatClampNeg) = (0 : Int32)) _ (t := 995) (u := 991) (lv' := [(0, .ref 0), (1, .ref 5), (2, .ref 129), (3, .int x3)]) (st' := [.ref 129, .int q57]) (h' := hp M) rfl (fun hc => ?_) (fun hc => ?_)
    · replace h := (if_pos hc).symm.trans h
      refine am_Y.run (k := 1) (pc' := 996) (lv' := [(0, .ref 0), (1, .ref 5), (2, .ref 129), (3, .int x3)]) (st' := [.int (0 : Int32), .ref 129, .int q57]) (h' := hp M) rfl ?_
      obtain ⟨q58, e_q58, h⟩ := Option.bind_eq_some_iff.mp h
      refine am_Y.call0 (M' := am_M47) (as := [.ref 129, .int (0 : Int32)]) (rest := [.int q57]) (d' := 3) rfl (by omega) rfl rfl (t_m_longest N (0 : Int32) M q58 e_q58) ?_
      refine am_Y.br (c := q57 = q58) _ (t := 1792) (u := 1002) (lv' := [(0, .ref 0), (1, .ref 5), (2, .ref 129), (3, .int x3)]) (st' := []) (h' := hp M) rfl (fun hc => ?_) (fun hc => ?_)
      · replace h := (if_pos hc).symm.trans h
        refine am_Y.run (k := 2) (pc' := 18) (lv' := [(3, .int (x3 + (6 : Int32))), (0, .ref 0), (1, .ref 5), (2, .ref 129)]) (st' := []) (h' := hp M) rfl ?_
        refine am_Y.weak (lv2 := [(0, .ref 0), (1, .ref 5), (2, .ref 129), (3, .int (x3 + (6 : Int32)))]) rfl rfl ⟨rfl, rfl, rfl, rfl, trivial⟩ ?_
        exact hK18 (x3 + (6 : Int32)) M _ _ h
      · replace h := (if_neg hc).symm.trans h
        refine am_Y.run (k := 1) (pc' := 1003) (lv' := [(0, .ref 0), (1, .ref 5), (2, .ref 129), (3, .int x3)]) (st' := [.int (0 : Int32)]) (h' := hp M) rfl ?_
        obtain ⟨rfl, rfl⟩ := Prod.mk.inj (Option.some.inj h)
        exact am_Y.ret rfl
    · replace h := (if_neg hc).symm.trans h
      refine am_Y.run (k := 2) (pc' := 996) (lv' := [(0, .ref 0), (1, .ref 5), (2, .ref 129), (3, .int x3)]) (st' := [.int (1 : Int32), .ref 129, .int q57]) (h' := hp M) rfl ?_
      obtain ⟨q59, e_q59, h⟩ := Option.bind_eq_some_iff.mp h
      refine am_Y.call0 (M' := am_M47) (as := [.ref 129, .int (1 : Int32)]) (rest := [.int q57]) (d' := 3) rfl (by omega) rfl rfl (t_m_longest N (1 : Int32) M q59 e_q59) ?_
      refine am_Y.br (c := q57 = q59) _ (t := 1792) (u := 1002) (lv' := [(0, .ref 0), (1, .ref 5), (2, .ref 129), (3, .int x3)]) (st' := []) (h' := hp M) rfl (fun hc => ?_) (fun hc => ?_)
      · replace h := (if_pos hc).symm.trans h
        refine am_Y.run (k := 2) (pc' := 18) (lv' := [(3, .int (x3 + (6 : Int32))), (0, .ref 0), (1, .ref 5), (2, .ref 129)]) (st' := []) (h' := hp M) rfl ?_
        refine am_Y.weak (lv2 := [(0, .ref 0), (1, .ref 5), (2, .ref 129), (3, .int (x3 + (6 : Int32)))]) rfl rfl ⟨rfl, rfl, rfl, rfl, trivial⟩ ?_
        exact hK18 (x3 + (6 : Int32)) M _ _ h
      · replace h := (if_neg hc).symm.trans h
        refine am_Y.run (k := 1) (pc' := 1003) (lv' := [(0, .ref 0), (1, .ref 5), (2, .ref 129), (3, .int x3)]) (st' := [.int (0 : Int32)]) (h' := hp M) rfl ?_
        obtain ⟨rfl, rfl⟩ := Prod.mk.inj (Option.some.inj h)
        exact am_Y.ret rfl
  · replace h := (if_neg hc).symm.trans h
    refine am_Y.run (k := 2) (pc' := 979) (lv' := [(0, .ref 0), (1, .ref 5), (2, .ref 129), (3, .int x3)]) (st' := [.int (1 : Int32), .ref 5]) (h' := hp M) rfl ?_
    obtain ⟨q60, e_q60, h⟩ := Option.bind_eq_some_iff.mp h
    refine am_Y.call0 (M' := am_M46) (as := [.ref 5, .int (1 : Int32)]) (rest := []) (d' := 3) rfl (by omega) rfl rfl (t_w_longest N (1 : Int32) M q60 e_q60) ?_
    refine am_Y.run (k := 5) (pc' := 987) (lv' := [(0, .ref 0), (1, .ref 5), (2, .ref 129), (3, .int x3)]) (st' := [.int (x3 + (1 : Int32)), .ref 0, .ref 129, .int q60]) (h' := hp M) rfl ?_
    obtain ⟨g, h⟩ := am_itg h
    refine am_Y.sald rfl g ?_
    refine am_Y.br (c := (S.2 ((x3 + (1 : Int32))).toNatClampNeg) = (0 : Int32)) _ (t := 995) (u := 991) (lv' := [(0, .ref 0), (1, .ref 5), (2, .ref 129), (3, .int x3)]) (st' := [.ref 129, .int q60]) (h' := hp M) rfl (fun hc => ?_) (fun hc => ?_)
    · replace h := (if_pos hc).symm.trans h
      refine am_Y.run (k := 1) (pc' := 996) (lv' := [(0, .ref 0), (1, .ref 5), (2, .ref 129), (3, .int x3)]) (st' := [.int (0 : Int32), .ref 129, .int q60]) (h' := hp M) rfl ?_
      obtain ⟨q61, e_q61, h⟩ := Option.bind_eq_some_iff.mp h
      refine am_Y.call0 (M' := am_M47) (as := [.ref 129, .int (0 : Int32)]) (rest := [.int q60]) (d' := 3) rfl (by omega) rfl rfl (t_m_longest N (0 : Int32) M q61 e_q61) ?_
      refine am_Y.br (c := q60 = q61) _ (t := 1792) (u := 1002) (lv' := [(0, .ref 0), (1, .ref 5), (2, .ref 129), (3, .int x3)]) (st' := []) (h' := hp M) rfl (fun hc => ?_) (fun hc => ?_)
      · replace h := (if_pos hc).symm.trans h
        refine am_Y.run (k := 2) (pc' := 18) (lv' := [(3, .int (x3 + (6 : Int32))), (0, .ref 0), (1, .ref 5), (2, .ref 129)]) (st' := []) (h' := hp M) rfl ?_
        refine am_Y.weak (lv2 := [(0, .ref 0), (1, .ref 5), (2, .ref 129), (3, .int (x3 + (6 : Int32)))]) rfl rfl ⟨rfl, rfl, rfl, rfl, trivial⟩ ?_
        exact hK18 (x3 + (6 : Int32)) M _ _ h
      · replace h := (if_neg hc).symm.trans h
        refine am_Y.run (k := 1) (pc' := 1003) (lv' := [(0, .ref 0), (1, .ref 5), (2, .ref 129), (3, .int x3)]) (st' := [.int (0 : Int32)]) (h' := hp M) rfl ?_
        obtain ⟨rfl, rfl⟩ := Prod.mk.inj (Option.some.inj h)
        exact am_Y.ret rfl
    · replace h := (if_neg hc).symm.trans h
      refine am_Y.run (k := 2) (pc' := 996) (lv' := [(0, .ref 0), (1, .ref 5), (2, .ref 129), (3, .int x3)]) (st' := [.int (1 : Int32), .ref 129, .int q60]) (h' := hp M) rfl ?_
      obtain ⟨q62, e_q62, h⟩ := Option.bind_eq_some_iff.mp h
      refine am_Y.call0 (M' := am_M47) (as := [.ref 129, .int (1 : Int32)]) (rest := [.int q60]) (d' := 3) rfl (by omega) rfl rfl (t_m_longest N (1 : Int32) M q62 e_q62) ?_
      refine am_Y.br (c := q60 = q62) _ (t := 1792) (u := 1002) (lv' := [(0, .ref 0), (1, .ref 5), (2, .ref 129), (3, .int x3)]) (st' := []) (h' := hp M) rfl (fun hc => ?_) (fun hc => ?_)
      · replace h := (if_pos hc).symm.trans h
        refine am_Y.run (k := 2) (pc' := 18) (lv' := [(3, .int (x3 + (6 : Int32))), (0, .ref 0), (1, .ref 5), (2, .ref 129)]) (st' := []) (h' := hp M) rfl ?_
        refine am_Y.weak (lv2 := [(0, .ref 0), (1, .ref 5), (2, .ref 129), (3, .int (x3 + (6 : Int32)))]) rfl rfl ⟨rfl, rfl, rfl, rfl, trivial⟩ ?_
        exact hK18 (x3 + (6 : Int32)) M _ _ h
      · replace h := (if_neg hc).symm.trans h
        refine am_Y.run (k := 1) (pc' := 1003) (lv' := [(0, .ref 0), (1, .ref 5), (2, .ref 129), (3, .int x3)]) (st' := [.int (0 : Int32)]) (h' := hp M) rfl ?_
        obtain ⟨rfl, rfl⟩ := Prod.mk.inj (Option.some.inj h)
        exact am_Y.ret rfl
