/-! AM does what the functions say. -/
set_option maxRecDepth 100000 in
theorem t_m_has {S : Nat × (Nat → Int32)} (x0 : Int32) (x1 : Int32) (M : Mem) (r : Int32) (h : f_m_has x0 x1 M = r) : am_Y S 0 0 0 am_M175 0 [(0, .int x0), (1, .int x1)] [] (hp M) (some (.int r)) (hp M) := by
  rw [f_m_has] at h
  refine am_Y.run (k := 6) (pc' := 6) (lv' := [(0, .int x0), (1, .int x1)]) (st' := [.int (1 : Int32), .int ((x0 >>> (x1 &&& 31)) &&& (1 : Int32))]) (h' := hp M) rfl ?_
  refine am_Y.br (c := ((x0 >>> (x1 &&& 31)) &&& (1 : Int32)) = (1 : Int32)) _ (t := 9) (u := 13) (lv' := [(0, .int x0), (1, .int x1)]) (st' := []) (h' := hp M) rfl (fun hc => ?_) (fun hc => ?_)
  · replace h := (if_pos hc).symm.trans h
    refine am_Y.run (k := 2) (pc' := 14) (lv' := [(0, .int x0), (1, .int x1)]) (st' := [.int (1 : Int32)]) (h' := hp M) rfl ?_
    subst h
    exact am_Y.ret rfl
  · replace h := (if_neg hc).symm.trans h
    refine am_Y.run (k := 1) (pc' := 14) (lv' := [(0, .int x0), (1, .int x1)]) (st' := [.int (0 : Int32)]) (h' := hp M) rfl ?_
    subst h
    exact am_Y.ret rfl
set_option maxRecDepth 100000 in
theorem z_m_has (x0 : Int32) (x1 : Int32) (M : Mem) : f_m_has x0 x1 M = 0 ∨ f_m_has x0 x1 M = 1 := by
  simp only [f_m_has]
  first | (repeat' split) <;> first | exact Or.inl rfl | exact Or.inr rfl | (simp; done) | (simp; done)
set_option maxRecDepth 100000 in
theorem t_m_nameOf {S : Nat × (Nat → Int32)} (M : Mem) (r : Int32) (h : f_m_nameOf M = r) : am_Y S 5 0 0 am_M346 0 [(0, .ref 129)] [] (hp M) (some (.int r)) (hp M) := by
  rw [f_m_nameOf] at h
  refine am_Y.run (k := 3) (pc' := 5) (lv' := [(0, .ref 129)]) (st' := [.int (2 : Int32), .int (gi M 129 9)]) (h' := hp M) rfl ?_
  refine am_Y.br (c := (gi M 129 9) = (2 : Int32)) _ (t := 10) (u := 8) (lv' := [(0, .ref 129)]) (st' := []) (h' := hp M) rfl (fun hc => ?_) (fun hc => ?_)
  · replace h := (if_pos hc).symm.trans h
    refine am_Y.run (k := 7) (pc' := 24) (lv' := [(0, .ref 129)]) (st' := [.int (116 : Int32), .int (104 : Int32), .int (103 : Int32), .int (105 : Int32), .int (110 : Int32), .long (gj M 129 11)]) (h' := hp M) rfl ?_
    refine am_Y.call0 (M' := am_M311) (as := [.int (110 : Int32), .int (105 : Int32), .int (103 : Int32), .int (104 : Int32), .int (116 : Int32)]) (rest := [.long (gj M 129 11)]) (d' := 3) rfl (by omega) rfl rfl (t_m_w5 (110 : Int32) (105 : Int32) (103 : Int32) (104 : Int32) (116 : Int32) M (474214787188 : Int64) (by exact (by decide : f_m_w5 (110 : Int32) (105 : Int32) (103 : Int32) (104 : Int32) (116 : Int32) (fun _ _ => 0, fun _ _ => 0) = (474214787188 : Int64)))) ?_
    refine am_Y.run (k := 1) (pc' := 28) (lv' := [(0, .ref 129)]) (st' := [.int (lg_cmp (gj M 129 11) (474214787188 : Int64))]) (h' := hp M) rfl ?_
    refine am_Y.br (c := (lg_cmp (gj M 129 11) (474214787188 : Int64)) = (0 : Int32)) _ (t := 31) (u := 33) (lv' := [(0, .ref 129)]) (st' := []) (h' := hp M) rfl (fun hc => ?_) (fun hc => ?_)
    · replace h := (if_pos hc).symm.trans h
      refine am_Y.run (k := 1) (pc' := 32) (lv' := [(0, .ref 129)]) (st' := [.int (0 : Int32)]) (h' := hp M) rfl ?_
      subst h
      exact am_Y.ret rfl
    · replace h := (if_neg hc).symm.trans h
      refine am_Y.run (k := 8) (pc' := 49) (lv' := [(0, .ref 129)]) (st' := [.int (116 : Int32), .int (110 : Int32), .int (101 : Int32), .int (109 : Int32), .int (111 : Int32), .int (109 : Int32), .long (gj M 129 11)]) (h' := hp M) rfl ?_
      refine am_Y.call0 (M' := am_M307) (as := [.int (109 : Int32), .int (111 : Int32), .int (109 : Int32), .int (101 : Int32), .int (110 : Int32), .int (116 : Int32)]) (rest := [.long (gj M 129 11)]) (d' := 4) rfl (by omega) rfl rfl (t_m_w6 (109 : Int32) (111 : Int32) (109 : Int32) (101 : Int32) (110 : Int32) (116 : Int32) M (120325344161396 : Int64) (by exact (by decide : f_m_w6 (109 : Int32) (111 : Int32) (109 : Int32) (101 : Int32) (110 : Int32) (116 : Int32) (fun _ _ => 0, fun _ _ => 0) = (120325344161396 : Int64)))) ?_
      refine am_Y.run (k := 1) (pc' := 53) (lv' := [(0, .ref 129)]) (st' := [.int (lg_cmp (gj M 129 11) (120325344161396 : Int64))]) (h' := hp M) rfl ?_
      refine am_Y.br (c := (lg_cmp (gj M 129 11) (120325344161396 : Int64)) = (0 : Int32)) _ (t := 56) (u := 58) (lv' := [(0, .ref 129)]) (st' := []) (h' := hp M) rfl (fun hc => ?_) (fun hc => ?_)
      · replace h := (if_pos hc).symm.trans h
        refine am_Y.run (k := 1) (pc' := 57) (lv' := [(0, .ref 129)]) (st' := [.int (1 : Int32)]) (h' := hp M) rfl ?_
        subst h
        exact am_Y.ret rfl
      · replace h := (if_neg hc).symm.trans h
        refine am_Y.run (k := 6) (pc' := 70) (lv' := [(0, .ref 129)]) (st' := [.int (101 : Int32), .int (110 : Int32), .int (105 : Int32), .int (119 : Int32), .long (gj M 129 11)]) (h' := hp M) rfl ?_
        refine am_Y.call0 (M' := am_M310) (as := [.int (119 : Int32), .int (105 : Int32), .int (110 : Int32), .int (101 : Int32)]) (rest := [.long (gj M 129 11)]) (d' := 2) rfl (by omega) rfl rfl (t_m_w4 (119 : Int32) (105 : Int32) (110 : Int32) (101 : Int32) M (2003398245 : Int64) (by exact (by decide : f_m_w4 (119 : Int32) (105 : Int32) (110 : Int32) (101 : Int32) (fun _ _ => 0, fun _ _ => 0) = (2003398245 : Int64)))) ?_
        refine am_Y.run (k := 1) (pc' := 74) (lv' := [(0, .ref 129)]) (st' := [.int (lg_cmp (gj M 129 11) (2003398245 : Int64))]) (h' := hp M) rfl ?_
        refine am_Y.br (c := (lg_cmp (gj M 129 11) (2003398245 : Int64)) = (0 : Int32)) _ (t := 77) (u := 79) (lv' := [(0, .ref 129)]) (st' := []) (h' := hp M) rfl (fun hc => ?_) (fun hc => ?_)
        · replace h := (if_pos hc).symm.trans h
          refine am_Y.run (k := 1) (pc' := 78) (lv' := [(0, .ref 129)]) (st' := [.int (2 : Int32)]) (h' := hp M) rfl ?_
          subst h
          exact am_Y.ret rfl
        · replace h := (if_neg hc).symm.trans h
          refine am_Y.run (k := 6) (pc' := 91) (lv' := [(0, .ref 129)]) (st' := [.int (107 : Int32), .int (110 : Int32), .int (97 : Int32), .int (114 : Int32), .long (gj M 129 11)]) (h' := hp M) rfl ?_
          refine am_Y.call0 (M' := am_M310) (as := [.int (114 : Int32), .int (97 : Int32), .int (110 : Int32), .int (107 : Int32)]) (rest := [.long (gj M 129 11)]) (d' := 2) rfl (by omega) rfl rfl (t_m_w4 (114 : Int32) (97 : Int32) (110 : Int32) (107 : Int32) M (1918987883 : Int64) (by exact (by decide : f_m_w4 (114 : Int32) (97 : Int32) (110 : Int32) (107 : Int32) (fun _ _ => 0, fun _ _ => 0) = (1918987883 : Int64)))) ?_
          refine am_Y.run (k := 1) (pc' := 95) (lv' := [(0, .ref 129)]) (st' := [.int (lg_cmp (gj M 129 11) (1918987883 : Int64))]) (h' := hp M) rfl ?_
          refine am_Y.br (c := (lg_cmp (gj M 129 11) (1918987883 : Int64)) = (0 : Int32)) _ (t := 98) (u := 100) (lv' := [(0, .ref 129)]) (st' := []) (h' := hp M) rfl (fun hc => ?_) (fun hc => ?_)
          · replace h := (if_pos hc).symm.trans h
            refine am_Y.run (k := 1) (pc' := 99) (lv' := [(0, .ref 129)]) (st' := [.int (3 : Int32)]) (h' := hp M) rfl ?_
            subst h
            exact am_Y.ret rfl
          · replace h := (if_neg hc).symm.trans h
            refine am_Y.run (k := 7) (pc' := 114) (lv' := [(0, .ref 129)]) (st' := [.int (115 : Int32), .int (114 : Int32), .int (97 : Int32), .int (101 : Int32), .int (104 : Int32), .long (gj M 129 11)]) (h' := hp M) rfl ?_
            refine am_Y.call0 (M' := am_M311) (as := [.int (104 : Int32), .int (101 : Int32), .int (97 : Int32), .int (114 : Int32), .int (115 : Int32)]) (rest := [.long (gj M 129 11)]) (d' := 3) rfl (by omega) rfl rfl (t_m_w5 (104 : Int32) (101 : Int32) (97 : Int32) (114 : Int32) (115 : Int32) M (448377483891 : Int64) (by exact (by decide : f_m_w5 (104 : Int32) (101 : Int32) (97 : Int32) (114 : Int32) (115 : Int32) (fun _ _ => 0, fun _ _ => 0) = (448377483891 : Int64)))) ?_
            refine am_Y.run (k := 1) (pc' := 118) (lv' := [(0, .ref 129)]) (st' := [.int (lg_cmp (gj M 129 11) (448377483891 : Int64))]) (h' := hp M) rfl ?_
            refine am_Y.br (c := (lg_cmp (gj M 129 11) (448377483891 : Int64)) = (0 : Int32)) _ (t := 121) (u := 123) (lv' := [(0, .ref 129)]) (st' := []) (h' := hp M) rfl (fun hc => ?_) (fun hc => ?_)
            · replace h := (if_pos hc).symm.trans h
              refine am_Y.run (k := 1) (pc' := 122) (lv' := [(0, .ref 129)]) (st' := [.int (4 : Int32)]) (h' := hp M) rfl ?_
              subst h
              exact am_Y.ret rfl
            · replace h := (if_neg hc).symm.trans h
              refine am_Y.run (k := 6) (pc' := 135) (lv' := [(0, .ref 129)]) (st' := [.int (100 : Int32), .int (110 : Int32), .int (105 : Int32), .int (107 : Int32), .long (gj M 129 11)]) (h' := hp M) rfl ?_
              refine am_Y.call0 (M' := am_M310) (as := [.int (107 : Int32), .int (105 : Int32), .int (110 : Int32), .int (100 : Int32)]) (rest := [.long (gj M 129 11)]) (d' := 2) rfl (by omega) rfl rfl (t_m_w4 (107 : Int32) (105 : Int32) (110 : Int32) (100 : Int32) M (1802071652 : Int64) (by exact (by decide : f_m_w4 (107 : Int32) (105 : Int32) (110 : Int32) (100 : Int32) (fun _ _ => 0, fun _ _ => 0) = (1802071652 : Int64)))) ?_
              refine am_Y.run (k := 1) (pc' := 139) (lv' := [(0, .ref 129)]) (st' := [.int (lg_cmp (gj M 129 11) (1802071652 : Int64))]) (h' := hp M) rfl ?_
              refine am_Y.br (c := (lg_cmp (gj M 129 11) (1802071652 : Int64)) = (0 : Int32)) _ (t := 142) (u := 144) (lv' := [(0, .ref 129)]) (st' := []) (h' := hp M) rfl (fun hc => ?_) (fun hc => ?_)
              · replace h := (if_pos hc).symm.trans h
                refine am_Y.run (k := 1) (pc' := 143) (lv' := [(0, .ref 129)]) (st' := [.int (5 : Int32)]) (h' := hp M) rfl ?_
                subst h
                exact am_Y.ret rfl
              · replace h := (if_neg hc).symm.trans h
                refine am_Y.run (k := 7) (pc' := 158) (lv' := [(0, .ref 129)]) (st' := [.int (115 : Int32), .int (100 : Int32), .int (114 : Int32), .int (111 : Int32), .int (119 : Int32), .long (gj M 129 11)]) (h' := hp M) rfl ?_
                refine am_Y.call0 (M' := am_M311) (as := [.int (119 : Int32), .int (111 : Int32), .int (114 : Int32), .int (100 : Int32), .int (115 : Int32)]) (rest := [.long (gj M 129 11)]) (d' := 3) rfl (by omega) rfl rfl (t_m_w5 (119 : Int32) (111 : Int32) (114 : Int32) (100 : Int32) (115 : Int32) M (512970876019 : Int64) (by exact (by decide : f_m_w5 (119 : Int32) (111 : Int32) (114 : Int32) (100 : Int32) (115 : Int32) (fun _ _ => 0, fun _ _ => 0) = (512970876019 : Int64)))) ?_
                refine am_Y.run (k := 1) (pc' := 162) (lv' := [(0, .ref 129)]) (st' := [.int (lg_cmp (gj M 129 11) (512970876019 : Int64))]) (h' := hp M) rfl ?_
                refine am_Y.br (c := (lg_cmp (gj M 129 11) (512970876019 : Int64)) = (0 : Int32)) _ (t := 165) (u := 168) (lv' := [(0, .ref 129)]) (st' := []) (h' := hp M) rfl (fun hc => ?_) (fun hc => ?_)
                · replace h := (if_pos hc).symm.trans h
                  refine am_Y.run (k := 1) (pc' := 167) (lv' := [(0, .ref 129)]) (st' := [.int (6 : Int32)]) (h' := hp M) rfl ?_
                  subst h
                  exact am_Y.ret rfl
                · replace h := (if_neg hc).symm.trans h
                  refine am_Y.run (k := 7) (pc' := 182) (lv' := [(0, .ref 129)]) (st' := [.int (101 : Int32), .int (99 : Int32), .int (110 : Int32), .int (105 : Int32), .int (115 : Int32), .long (gj M 129 11)]) (h' := hp M) rfl ?_
                  refine am_Y.call0 (M' := am_M311) (as := [.int (115 : Int32), .int (105 : Int32), .int (110 : Int32), .int (99 : Int32), .int (101 : Int32)]) (rest := [.long (gj M 129 11)]) (d' := 3) rfl (by omega) rfl rfl (t_m_w5 (115 : Int32) (105 : Int32) (110 : Int32) (99 : Int32) (101 : Int32) M (495690081125 : Int64) (by exact (by decide : f_m_w5 (115 : Int32) (105 : Int32) (110 : Int32) (99 : Int32) (101 : Int32) (fun _ _ => 0, fun _ _ => 0) = (495690081125 : Int64)))) ?_
                  refine am_Y.run (k := 1) (pc' := 186) (lv' := [(0, .ref 129)]) (st' := [.int (lg_cmp (gj M 129 11) (495690081125 : Int64))]) (h' := hp M) rfl ?_
                  refine am_Y.br (c := (lg_cmp (gj M 129 11) (495690081125 : Int64)) = (0 : Int32)) _ (t := 189) (u := 192) (lv' := [(0, .ref 129)]) (st' := []) (h' := hp M) rfl (fun hc => ?_) (fun hc => ?_)
                  · replace h := (if_pos hc).symm.trans h
                    refine am_Y.run (k := 1) (pc' := 191) (lv' := [(0, .ref 129)]) (st' := [.int (7 : Int32)]) (h' := hp M) rfl ?_
                    subst h
                    exact am_Y.ret rfl
                  · replace h := (if_neg hc).symm.trans h
                    refine am_Y.run (k := 8) (pc' := 208) (lv' := [(0, .ref 129)]) (st' := [.int (115 : Int32), .int (116 : Int32), .int (115 : Int32), .int (101 : Int32), .int (117 : Int32), .int (103 : Int32), .long (gj M 129 11)]) (h' := hp M) rfl ?_
                    refine am_Y.call0 (M' := am_M307) (as := [.int (103 : Int32), .int (117 : Int32), .int (101 : Int32), .int (115 : Int32), .int (116 : Int32), .int (115 : Int32)]) (rest := [.long (gj M 129 11)]) (d' := 4) rfl (by omega) rfl rfl (t_m_w6 (103 : Int32) (117 : Int32) (101 : Int32) (115 : Int32) (116 : Int32) (115 : Int32) M (113753910899827 : Int64) (by exact (by decide : f_m_w6 (103 : Int32) (117 : Int32) (101 : Int32) (115 : Int32) (116 : Int32) (115 : Int32) (fun _ _ => 0, fun _ _ => 0) = (113753910899827 : Int64)))) ?_
                    refine am_Y.run (k := 1) (pc' := 212) (lv' := [(0, .ref 129)]) (st' := [.int (lg_cmp (gj M 129 11) (113753910899827 : Int64))]) (h' := hp M) rfl ?_
                    refine am_Y.br (c := (lg_cmp (gj M 129 11) (113753910899827 : Int64)) = (0 : Int32)) _ (t := 215) (u := 218) (lv' := [(0, .ref 129)]) (st' := []) (h' := hp M) rfl (fun hc => ?_) (fun hc => ?_)
                    · replace h := (if_pos hc).symm.trans h
                      refine am_Y.run (k := 1) (pc' := 217) (lv' := [(0, .ref 129)]) (st' := [.int (8 : Int32)]) (h' := hp M) rfl ?_
                      subst h
                      exact am_Y.ret rfl
                    · replace h := (if_neg hc).symm.trans h
                      refine am_Y.run (k := 5) (pc' := 228) (lv' := [(0, .ref 129)]) (st' := [.int (115 : Int32), .int (97 : Int32), .int (104 : Int32), .long (gj M 129 11)]) (h' := hp M) rfl ?_
                      refine am_Y.call0 (M' := am_M309) (as := [.int (104 : Int32), .int (97 : Int32), .int (115 : Int32)]) (rest := [.long (gj M 129 11)]) (d' := 1) rfl (by omega) rfl rfl (t_m_w3 (104 : Int32) (97 : Int32) (115 : Int32) M (6840691 : Int64) (by exact (by decide : f_m_w3 (104 : Int32) (97 : Int32) (115 : Int32) (fun _ _ => 0, fun _ _ => 0) = (6840691 : Int64)))) ?_
                      refine am_Y.run (k := 1) (pc' := 232) (lv' := [(0, .ref 129)]) (st' := [.int (lg_cmp (gj M 129 11) (6840691 : Int64))]) (h' := hp M) rfl ?_
                      refine am_Y.br (c := (lg_cmp (gj M 129 11) (6840691 : Int64)) = (0 : Int32)) _ (t := 235) (u := 238) (lv' := [(0, .ref 129)]) (st' := []) (h' := hp M) rfl (fun hc => ?_) (fun hc => ?_)
                      · replace h := (if_pos hc).symm.trans h
                        refine am_Y.run (k := 1) (pc' := 237) (lv' := [(0, .ref 129)]) (st' := [.int (9 : Int32)]) (h' := hp M) rfl ?_
                        subst h
                        exact am_Y.ret rfl
                      · replace h := (if_neg hc).symm.trans h
                        refine am_Y.run (k := 6) (pc' := 250) (lv' := [(0, .ref 129)]) (st' := [.int (100 : Int32), .int (105 : Int32), .int (97 : Int32), .int (115 : Int32), .long (gj M 129 11)]) (h' := hp M) rfl ?_
                        refine am_Y.call0 (M' := am_M310) (as := [.int (115 : Int32), .int (97 : Int32), .int (105 : Int32), .int (100 : Int32)]) (rest := [.long (gj M 129 11)]) (d' := 2) rfl (by omega) rfl rfl (t_m_w4 (115 : Int32) (97 : Int32) (105 : Int32) (100 : Int32) M (1935763812 : Int64) (by exact (by decide : f_m_w4 (115 : Int32) (97 : Int32) (105 : Int32) (100 : Int32) (fun _ _ => 0, fun _ _ => 0) = (1935763812 : Int64)))) ?_
                        refine am_Y.run (k := 1) (pc' := 254) (lv' := [(0, .ref 129)]) (st' := [.int (lg_cmp (gj M 129 11) (1935763812 : Int64))]) (h' := hp M) rfl ?_
                        refine am_Y.br (c := (lg_cmp (gj M 129 11) (1935763812 : Int64)) = (0 : Int32)) _ (t := 257) (u := 262) (lv' := [(0, .ref 129)]) (st' := []) (h' := hp M) rfl (fun hc => ?_) (fun hc => ?_)
                        · replace h := (if_pos hc).symm.trans h
                          refine am_Y.run (k := 2) (pc' := 289) (lv' := [(0, .ref 129)]) (st' := [.int (10 : Int32)]) (h' := hp M) rfl ?_
                          subst h
                          exact am_Y.ret rfl
                        · replace h := (if_neg hc).symm.trans h
                          refine am_Y.run (k := 7) (pc' := 276) (lv' := [(0, .ref 129)]) (st' := [.int (115 : Int32), .int (114 : Int32), .int (105 : Int32), .int (101 : Int32), .int (104 : Int32), .long (gj M 129 11)]) (h' := hp M) rfl ?_
                          refine am_Y.call0 (M' := am_M311) (as := [.int (104 : Int32), .int (101 : Int32), .int (105 : Int32), .int (114 : Int32), .int (115 : Int32)]) (rest := [.long (gj M 129 11)]) (d' := 3) rfl (by omega) rfl rfl (t_m_w5 (104 : Int32) (101 : Int32) (105 : Int32) (114 : Int32) (115 : Int32) M (448378008179 : Int64) (by exact (by decide : f_m_w5 (104 : Int32) (101 : Int32) (105 : Int32) (114 : Int32) (115 : Int32) (fun _ _ => 0, fun _ _ => 0) = (448378008179 : Int64)))) ?_
                          refine am_Y.run (k := 1) (pc' := 280) (lv' := [(0, .ref 129)]) (st' := [.int (lg_cmp (gj M 129 11) (448378008179 : Int64))]) (h' := hp M) rfl ?_
                          refine am_Y.br (c := (lg_cmp (gj M 129 11) (448378008179 : Int64)) = (0 : Int32)) _ (t := 283) (u := 288) (lv' := [(0, .ref 129)]) (st' := []) (h' := hp M) rfl (fun hc => ?_) (fun hc => ?_)
                          · replace h := (if_pos hc).symm.trans h
                            refine am_Y.run (k := 2) (pc' := 289) (lv' := [(0, .ref 129)]) (st' := [.int (11 : Int32)]) (h' := hp M) rfl ?_
                            subst h
                            exact am_Y.ret rfl
                          · replace h := (if_neg hc).symm.trans h
                            refine am_Y.run (k := 1) (pc' := 289) (lv' := [(0, .ref 129)]) (st' := [.int (-1 : Int32)]) (h' := hp M) rfl ?_
                            subst h
                            exact am_Y.ret rfl
  · replace h := (if_neg hc).symm.trans h
    refine am_Y.run (k := 1) (pc' := 9) (lv' := [(0, .ref 129)]) (st' := [.int (-1 : Int32)]) (h' := hp M) rfl ?_
    subst h
    exact am_Y.ret rfl
set_option maxRecDepth 100000 in
theorem t_m_isOf_16 {S : Nat × (Nat → Int32)} (s0 : Int32) (M : Mem) (r : Int32) (h : f_m_isOf_16 s0 M = r) : am_Y S 0 0 0 am_M347 16 [(0, .ref 129)] [.int s0] (hp M) (some (.int r)) (hp M) := by
  rw [f_m_isOf_16] at h
  refine am_Y.run (k := 3) (pc' := 21) (lv' := [(0, .ref 129)]) (st' := [.int (2 : Int32), .int (gi M 129 14), .int s0]) (h' := hp M) rfl ?_
  refine am_Y.br (c := (gi M 129 14) = (2 : Int32)) _ (t := 28) (u := 24) (lv' := [(0, .ref 129)]) (st' := [.int s0]) (h' := hp M) rfl (fun hc => ?_) (fun hc => ?_)
  · replace h := (if_pos hc).symm.trans h
    refine am_Y.run (k := 1) (pc' := 29) (lv' := [(0, .ref 129)]) (st' := [.int (0 : Int32), .int s0]) (h' := hp M) rfl ?_
    refine am_Y.br (c := s0 = (0 : Int32)) _ (t := 32) (u := 36) (lv' := [(0, .ref 129)]) (st' := []) (h' := hp M) rfl (fun hc => ?_) (fun hc => ?_)
    · replace h := (if_pos hc).symm.trans h
      refine am_Y.run (k := 2) (pc' := 37) (lv' := [(0, .ref 129)]) (st' := [.int (1 : Int32)]) (h' := hp M) rfl ?_
      subst h
      exact am_Y.ret rfl
    · replace h := (if_neg hc).symm.trans h
      refine am_Y.run (k := 1) (pc' := 37) (lv' := [(0, .ref 129)]) (st' := [.int (0 : Int32)]) (h' := hp M) rfl ?_
      subst h
      exact am_Y.ret rfl
  · replace h := (if_neg hc).symm.trans h
    refine am_Y.run (k := 2) (pc' := 29) (lv' := [(0, .ref 129)]) (st' := [.int (1 : Int32), .int s0]) (h' := hp M) rfl ?_
    refine am_Y.br (c := s0 = (1 : Int32)) _ (t := 32) (u := 36) (lv' := [(0, .ref 129)]) (st' := []) (h' := hp M) rfl (fun hc => ?_) (fun hc => ?_)
    · replace h := (if_pos hc).symm.trans h
      refine am_Y.run (k := 2) (pc' := 37) (lv' := [(0, .ref 129)]) (st' := [.int (1 : Int32)]) (h' := hp M) rfl ?_
      subst h
      exact am_Y.ret rfl
    · replace h := (if_neg hc).symm.trans h
      refine am_Y.run (k := 1) (pc' := 37) (lv' := [(0, .ref 129)]) (st' := [.int (0 : Int32)]) (h' := hp M) rfl ?_
      subst h
      exact am_Y.ret rfl
set_option maxRecDepth 100000 in
theorem t_m_isOf {S : Nat × (Nat → Int32)} (x1 : Int32) (M : Mem) (r : Int32) (h : f_m_isOf x1 M = r) : am_Y S 0 0 0 am_M347 0 [(0, .ref 129), (1, .int x1)] [] (hp M) (some (.int r)) (hp M) := by
  rw [f_m_isOf] at h
  refine am_Y.run (k := 2) (pc' := 2) (lv' := [(0, .ref 129), (1, .int x1)]) (st' := [.int (3 : Int32), .int x1]) (h' := hp M) rfl ?_
  refine am_Y.br (c := x1 < (3 : Int32)) _ (t := 32) (u := 5) (lv' := [(0, .ref 129), (1, .int x1)]) (st' := []) (h' := hp M) rfl (fun hc => ?_) (fun hc => ?_)
  · replace h := (if_pos hc).symm.trans h
    refine am_Y.run (k := 2) (pc' := 37) (lv' := [(0, .ref 129), (1, .int x1)]) (st' := [.int (1 : Int32)]) (h' := hp M) rfl ?_
    subst h
    exact am_Y.ret rfl
  · replace h := (if_neg hc).symm.trans h
    refine am_Y.run (k := 2) (pc' := 8) (lv' := [(0, .ref 129), (1, .int x1)]) (st' := [.int (10 : Int32), .int x1]) (h' := hp M) rfl ?_
    refine am_Y.br (c := (10 : Int32) ≤ x1) _ (t := 15) (u := 11) (lv' := [(0, .ref 129), (1, .int x1)]) (st' := []) (h' := hp M) rfl (fun hc => ?_) (fun hc => ?_)
    · replace h := (if_pos hc).symm.trans h
      refine am_Y.run (k := 1) (pc' := 16) (lv' := [(0, .ref 129), (1, .int x1)]) (st' := [.int (0 : Int32)]) (h' := hp M) rfl ?_
      refine am_Y.weak (lv2 := [(0, .ref 129)]) rfl rfl ⟨rfl, trivial⟩ ?_
      exact t_m_isOf_16 (0 : Int32) M _ h
    · replace h := (if_neg hc).symm.trans h
      refine am_Y.run (k := 2) (pc' := 16) (lv' := [(0, .ref 129), (1, .int x1)]) (st' := [.int (1 : Int32)]) (h' := hp M) rfl ?_
      refine am_Y.weak (lv2 := [(0, .ref 129)]) rfl rfl ⟨rfl, trivial⟩ ?_
      exact t_m_isOf_16 (1 : Int32) M _ h
set_option maxRecDepth 100000 in
theorem z_m_isOf (x1 : Int32) (M : Mem) : f_m_isOf x1 M = 0 ∨ f_m_isOf x1 M = 1 := by
  simp only [f_m_isOf, f_m_isOf_16]
  first | (repeat' split) <;> first | exact Or.inl rfl | exact Or.inr rfl | (simp; done) | (simp; done)
set_option maxRecDepth 100000 in
theorem t_m_opened {S : Nat × (Nat → Int32)} (N : Nat) (x1 : Int32) (M : Mem) (r : Int32) (M' : Mem) (h : f_m_opened N x1 M = some (r, M')) : am_Y S 2 0 0 am_M349 0 [(0, .ref 129), (1, .int x1)] [] (hp M) (some (.int r)) (hp M') := by
  rw [f_m_opened] at h
  refine am_Y.run (k := 3) (pc' := 6) (lv' := [(0, .ref 129), (1, .int x1)]) (st' := [.int (8 : Int32), .int (gi M 129 20)]) (h' := hp M) rfl ?_
  refine am_Y.br (c := (gi M 129 20) = (8 : Int32)) _ (t := 9) (u := 11) (lv' := [(0, .ref 129), (1, .int x1)]) (st' := []) (h' := hp M) rfl (fun hc => ?_) (fun hc => ?_)
  · replace h := (if_pos hc).symm.trans h
    refine am_Y.run (k := 1) (pc' := 10) (lv' := [(0, .ref 129), (1, .int x1)]) (st' := [.int (3 : Int32)]) (h' := hp M) rfl ?_
    obtain ⟨rfl, rfl⟩ := Prod.mk.inj (Option.some.inj h)
    exact am_Y.ret rfl
  · replace h := (if_neg hc).symm.trans h
    refine am_Y.run (k := 6) (pc' := 21) (lv' := [(0, .ref 129), (1, .int x1)]) (st' := []) (h' := hp (si M 129 20 ((gi M 129 20) + (1 : Int32)))) rfl ?_
    obtain ⟨q1, e_q1, h⟩ := Option.bind_eq_some_iff.mp h
    rw [Option.some.inj e_q1]
    refine am_Y.run (k := 5) (pc' := 30) (lv' := [(0, .ref 129), (1, .int x1)]) (st' := [.int x1, .int (gi q1 129 19), .ref 134]) (h' := hp q1) rfl ?_
    obtain ⟨g, h⟩ := am_itg h
    refine am_Y.iast (a := 129) (n := 160) rfl rfl g ?_
    refine am_Y.run (k := 0) (pc' := _) (lv' := [(0, .ref 129), (1, .int x1)]) (st' := []) (h' := hp (si q1 134 ((gi q1 129 19)).toNatClampNeg x1)) rfl ?_
    obtain ⟨q2, e_q2, h⟩ := Option.bind_eq_some_iff.mp h
    rw [Option.some.inj e_q2]
    refine am_Y.run (k := 6) (pc' := 41) (lv' := [(0, .ref 129), (1, .int x1)]) (st' := []) (h' := hp (si q2 129 19 ((gi q2 129 19) + (1 : Int32)))) rfl ?_
    obtain ⟨q3, e_q3, h⟩ := Option.bind_eq_some_iff.mp h
    rw [Option.some.inj e_q3]
    refine am_Y.run (k := 2) (pc' := 44) (lv' := [(0, .ref 129), (1, .int x1)]) (st' := [.int (41 : Int32), .int x1]) (h' := hp q3) rfl ?_
    refine am_Y.br (c := x1 = (41 : Int32)) _ (t := 47) (u := 67) (lv' := [(0, .ref 129), (1, .int x1)]) (st' := []) (h' := hp q3) rfl (fun hc => ?_) (fun hc => ?_)
    · replace h := (if_pos hc).symm.trans h
      refine am_Y.run (k := 5) (pc' := 56) (lv' := [(0, .ref 129), (1, .int x1)]) (st' := [.int (0 : Int32), .int (gi q3 129 21), .ref 135]) (h' := hp q3) rfl ?_
      obtain ⟨g, h⟩ := am_itg h
      refine am_Y.iast (a := 130) (n := 9) rfl rfl g ?_
      refine am_Y.run (k := 0) (pc' := _) (lv' := [(0, .ref 129), (1, .int x1)]) (st' := []) (h' := hp (si q3 135 ((gi q3 129 21)).toNatClampNeg (0 : Int32))) rfl ?_
      obtain ⟨q4, e_q4, h⟩ := Option.bind_eq_some_iff.mp h
      rw [Option.some.inj e_q4]
      refine am_Y.run (k := 6) (pc' := 67) (lv' := [(0, .ref 129), (1, .int x1)]) (st' := []) (h' := hp (si q4 129 21 ((gi q4 129 21) + (1 : Int32)))) rfl ?_
      obtain ⟨q5, e_q5, h⟩ := Option.bind_eq_some_iff.mp h
      rw [Option.some.inj e_q5]
      refine am_Y.run (k := 1) (pc' := 68) (lv' := [(0, .ref 129), (1, .int x1)]) (st' := [.ref 129]) (h' := hp q5) rfl ?_
      obtain ⟨q6, e_q6, h⟩ := Option.bind_eq_some_iff.mp h
      refine am_Y.call0 (M' := am_M228) (as := [.ref 129]) (rest := []) (d' := 1) rfl (by omega) rfl rfl (t_m_nextToken N q5 q6 e_q6) ?_
      refine am_Y.run (k := 1) (pc' := 72) (lv' := [(0, .ref 129), (1, .int x1)]) (st' := [.int (0 : Int32)]) (h' := hp q6) rfl ?_
      obtain ⟨rfl, rfl⟩ := Prod.mk.inj (Option.some.inj h)
      exact am_Y.ret rfl
    · replace h := (if_neg hc).symm.trans h
      refine am_Y.run (k := 1) (pc' := 68) (lv' := [(0, .ref 129), (1, .int x1)]) (st' := [.ref 129]) (h' := hp q3) rfl ?_
      obtain ⟨q7, e_q7, h⟩ := Option.bind_eq_some_iff.mp h
      refine am_Y.call0 (M' := am_M228) (as := [.ref 129]) (rest := []) (d' := 1) rfl (by omega) rfl rfl (t_m_nextToken N q3 q7 e_q7) ?_
      refine am_Y.run (k := 1) (pc' := 72) (lv' := [(0, .ref 129), (1, .int x1)]) (st' := [.int (0 : Int32)]) (h' := hp q7) rfl ?_
      obtain ⟨rfl, rfl⟩ := Prod.mk.inj (Option.some.inj h)
      exact am_Y.ret rfl
set_option maxRecDepth 100000 in
theorem t_m_openAt_7 {S : Nat × (Nat → Int32)} (N : Nat) : ∀ (n : Nat) (x1 : Int32) (M : Mem) (r : Int32), f_m_openAt_7 N n x1 M = some r → am_Y S 0 0 0 am_M351 7 [(0, .ref 129), (1, .int x1)] [] (hp M) (some (.int r)) (hp M) := by
  intro n
  induction n with
  | zero =>
    intro x1 M r h
    cases h
  | succ n ih =>
    intro x1 M r h
    rw [f_m_openAt_7] at h
    refine am_Y.run (k := 1) (pc' := 8) (lv' := [(0, .ref 129), (1, .int x1)]) (st' := [.int x1]) (h' := hp M) rfl ?_
    refine am_Y.br (c := x1 < (0 : Int32)) _ (t := 28) (u := 11) (lv' := [(0, .ref 129), (1, .int x1)]) (st' := []) (h' := hp M) rfl (fun hc => ?_) (fun hc => ?_)
    · replace h := (if_pos hc).symm.trans h
      refine am_Y.run (k := 1) (pc' := 29) (lv' := [(0, .ref 129), (1, .int x1)]) (st' := [.int x1]) (h' := hp M) rfl ?_
      obtain rfl := Option.some.inj h
      exact am_Y.ret rfl
    · replace h := (if_neg hc).symm.trans h
      refine am_Y.run (k := 3) (pc' := 16) (lv' := [(0, .ref 129), (1, .int x1)]) (st' := [.int x1, .ref 134]) (h' := hp M) rfl ?_
      obtain ⟨g, h⟩ := am_itg h
      refine am_Y.iald (a := 129) (n := 160) rfl rfl g ?_
      refine am_Y.run (k := 1) (pc' := 19) (lv' := [(0, .ref 129), (1, .int x1)]) (st' := [.int (40 : Int32), .int (gi M 134 (x1).toNatClampNeg)]) (h' := hp M) rfl ?_
      refine am_Y.br (c := (40 : Int32) ≤ (gi M 134 (x1).toNatClampNeg)) _ (t := 28) (u := 22) (lv' := [(0, .ref 129), (1, .int x1)]) (st' := []) (h' := hp M) rfl (fun hc => ?_) (fun hc => ?_)
      · replace h := (if_pos hc).symm.trans h
        refine am_Y.run (k := 1) (pc' := 29) (lv' := [(0, .ref 129), (1, .int x1)]) (st' := [.int x1]) (h' := hp M) rfl ?_
        obtain rfl := Option.some.inj h
        exact am_Y.ret rfl
      · replace h := (if_neg hc).symm.trans h
        refine am_Y.run (k := 2) (pc' := 7) (lv' := [(1, .int (x1 + (-1 : Int32))), (0, .ref 129)]) (st' := []) (h' := hp M) rfl ?_
        refine am_Y.weak (lv2 := [(0, .ref 129), (1, .int (x1 + (-1 : Int32)))]) rfl rfl ⟨rfl, rfl, trivial⟩ ?_
        exact ih (x1 + (-1 : Int32)) M _ h
set_option maxRecDepth 100000 in
theorem t_m_openAt {S : Nat × (Nat → Int32)} (N : Nat) (M : Mem) (r : Int32) (h : f_m_openAt N M = some r) : am_Y S 0 0 0 am_M351 0 [(0, .ref 129)] [] (hp M) (some (.int r)) (hp M) := by
  rw [f_m_openAt] at h
  refine am_Y.run (k := 5) (pc' := 7) (lv' := [(1, .int ((gi M 129 19) - (1 : Int32))), (0, .ref 129)]) (st' := []) (h' := hp M) rfl ?_
  refine am_Y.weak (lv2 := [(0, .ref 129), (1, .int ((gi M 129 19) - (1 : Int32)))]) rfl rfl ⟨rfl, rfl, trivial⟩ ?_
  exact t_m_openAt_7 N N ((gi M 129 19) - (1 : Int32)) M _ h
set_option maxRecDepth 100000 in
theorem t_m_openNow {S : Nat × (Nat → Int32)} (N : Nat) (M : Mem) (r : Int32) (h : f_m_openNow N M = some r) : am_Y S 1 0 0 am_M334 0 [(0, .ref 129)] [] (hp M) (some (.int r)) (hp M) := by
  rw [f_m_openNow] at h
  refine am_Y.run (k := 1) (pc' := 1) (lv' := [(0, .ref 129)]) (st' := [.ref 129]) (h' := hp M) rfl ?_
  obtain ⟨q1, e_q1, h⟩ := Option.bind_eq_some_iff.mp h
  refine am_Y.call0 (M' := am_M351) (as := [.ref 129]) (rest := []) (d' := 0) rfl (by omega) rfl rfl (t_m_openAt N M q1 e_q1) ?_
  refine am_Y.br (c := (0 : Int32) ≤ q1) _ (t := 11) (u := 7) (lv' := [(0, .ref 129)]) (st' := []) (h' := hp M) rfl (fun hc => ?_) (fun hc => ?_)
  · replace h := (if_pos hc).symm.trans h
    refine am_Y.run (k := 3) (pc' := 16) (lv' := [(0, .ref 129)]) (st' := [.ref 129, .ref 134]) (h' := hp M) rfl ?_
    obtain ⟨q2, e_q2, h⟩ := Option.bind_eq_some_iff.mp h
    refine am_Y.call0 (M' := am_M351) (as := [.ref 129]) (rest := [.ref 134]) (d' := 0) rfl (by omega) rfl rfl (t_m_openAt N M q2 e_q2) ?_
    obtain ⟨g, h⟩ := am_itg h
    refine am_Y.iald (a := 129) (n := 160) rfl rfl g ?_
    obtain rfl := Option.some.inj h
    exact am_Y.ret rfl
  · replace h := (if_neg hc).symm.trans h
    refine am_Y.run (k := 2) (pc' := 20) (lv' := [(0, .ref 129)]) (st' := [.int (-1 : Int32)]) (h' := hp M) rfl ?_
    obtain rfl := Option.some.inj h
    exact am_Y.ret rfl
set_option maxRecDepth 100000 in
theorem t_m_isAskHere {S : Nat × (Nat → Int32)} (N : Nat) (M : Mem) (r : Int32) (h : f_m_isAskHere N M = some r) : am_Y S 2 0 0 am_M353 0 [(0, .ref 129)] [] (hp M) (some (.int r)) (hp M) := by
  rw [f_m_isAskHere] at h
  refine am_Y.run (k := 2) (pc' := 4) (lv' := [(0, .ref 129)]) (st' := [.int (gi M 129 23)]) (h' := hp M) rfl ?_
  refine am_Y.br (c := (gi M 129 23) = (0 : Int32)) _ (t := 19) (u := 7) (lv' := [(0, .ref 129)]) (st' := []) (h' := hp M) rfl (fun hc => ?_) (fun hc => ?_)
  · replace h := (if_pos hc).symm.trans h
    refine am_Y.run (k := 1) (pc' := 20) (lv' := [(0, .ref 129)]) (st' := [.int (0 : Int32)]) (h' := hp M) rfl ?_
    obtain rfl := Option.some.inj h
    exact am_Y.ret rfl
  · replace h := (if_neg hc).symm.trans h
    refine am_Y.run (k := 1) (pc' := 8) (lv' := [(0, .ref 129)]) (st' := [.ref 129]) (h' := hp M) rfl ?_
    obtain ⟨q1, e_q1, h⟩ := Option.bind_eq_some_iff.mp h
    refine am_Y.call0 (M' := am_M334) (as := [.ref 129]) (rest := []) (d' := 1) rfl (by omega) rfl rfl (t_m_openNow N M q1 e_q1) ?_
    refine am_Y.run (k := 1) (pc' := 12) (lv' := [(0, .ref 129)]) (st' := [.int (-1 : Int32), .int q1]) (h' := hp M) rfl ?_
    refine am_Y.br (c := q1 = (-1 : Int32)) _ (t := 15) (u := 19) (lv' := [(0, .ref 129)]) (st' := []) (h' := hp M) rfl (fun hc => ?_) (fun hc => ?_)
    · replace h := (if_pos hc).symm.trans h
      refine am_Y.run (k := 2) (pc' := 20) (lv' := [(0, .ref 129)]) (st' := [.int (1 : Int32)]) (h' := hp M) rfl ?_
      obtain rfl := Option.some.inj h
      exact am_Y.ret rfl
    · replace h := (if_neg hc).symm.trans h
      refine am_Y.run (k := 1) (pc' := 20) (lv' := [(0, .ref 129)]) (st' := [.int (0 : Int32)]) (h' := hp M) rfl ?_
      obtain rfl := Option.some.inj h
      exact am_Y.ret rfl
set_option maxRecDepth 100000 in
theorem t_m_rank {S : Nat × (Nat → Int32)} (x0 : Int32) (M : Mem) (r : Int32) (h : f_m_rank x0 M = r) : am_Y S 0 0 0 am_M343 0 [(0, .int x0)] [] (hp M) (some (.int r)) (hp M) := by
  rw [f_m_rank] at h
  refine am_Y.run (k := 2) (pc' := 3) (lv' := [(0, .int x0)]) (st' := [.int (40 : Int32), .int x0]) (h' := hp M) rfl ?_
  refine am_Y.br (c := x0 < (40 : Int32)) _ (t := 10) (u := 6) (lv' := [(0, .int x0)]) (st' := []) (h' := hp M) rfl (fun hc => ?_) (fun hc => ?_)
  · replace h := (if_pos hc).symm.trans h
    refine am_Y.run (k := 2) (pc' := 13) (lv' := [(0, .int x0)]) (st' := [.int (22 : Int32), .int x0]) (h' := hp M) rfl ?_
    refine am_Y.br (c := x0 = (22 : Int32)) _ (t := 16) (u := 20) (lv' := [(0, .int x0)]) (st' := []) (h' := hp M) rfl (fun hc => ?_) (fun hc => ?_)
    · replace h := (if_pos hc).symm.trans h
      refine am_Y.run (k := 2) (pc' := 72) (lv' := [(0, .int x0)]) (st' := [.int (1 : Int32)]) (h' := hp M) rfl ?_
      subst h
      exact am_Y.ret rfl
    · replace h := (if_neg hc).symm.trans h
      refine am_Y.run (k := 2) (pc' := 23) (lv' := [(0, .int x0)]) (st' := [.int (21 : Int32), .int x0]) (h' := hp M) rfl ?_
      refine am_Y.br (c := x0 = (21 : Int32)) _ (t := 26) (u := 30) (lv' := [(0, .int x0)]) (st' := []) (h' := hp M) rfl (fun hc => ?_) (fun hc => ?_)
      · replace h := (if_pos hc).symm.trans h
        refine am_Y.run (k := 2) (pc' := 72) (lv' := [(0, .int x0)]) (st' := [.int (2 : Int32)]) (h' := hp M) rfl ?_
        subst h
        exact am_Y.ret rfl
      · replace h := (if_neg hc).symm.trans h
        refine am_Y.run (k := 2) (pc' := 33) (lv' := [(0, .int x0)]) (st' := [.int (20 : Int32), .int x0]) (h' := hp M) rfl ?_
        refine am_Y.br (c := x0 = (20 : Int32)) _ (t := 36) (u := 40) (lv' := [(0, .int x0)]) (st' := []) (h' := hp M) rfl (fun hc => ?_) (fun hc => ?_)
        · replace h := (if_pos hc).symm.trans h
          refine am_Y.run (k := 2) (pc' := 72) (lv' := [(0, .int x0)]) (st' := [.int (3 : Int32)]) (h' := hp M) rfl ?_
          subst h
          exact am_Y.ret rfl
        · replace h := (if_neg hc).symm.trans h
          refine am_Y.run (k := 2) (pc' := 43) (lv' := [(0, .int x0)]) (st' := [.int (10 : Int32), .int x0]) (h' := hp M) rfl ?_
          refine am_Y.br (c := x0 < (10 : Int32)) _ (t := 50) (u := 46) (lv' := [(0, .int x0)]) (st' := []) (h' := hp M) rfl (fun hc => ?_) (fun hc => ?_)
          · replace h := (if_pos hc).symm.trans h
            refine am_Y.run (k := 2) (pc' := 52) (lv' := [(0, .int x0)]) (st' := [.int (3 : Int32), .int x0]) (h' := hp M) rfl ?_
            refine am_Y.br (c := x0 = (3 : Int32)) _ (t := 55) (u := 60) (lv' := [(0, .int x0)]) (st' := []) (h' := hp M) rfl (fun hc => ?_) (fun hc => ?_)
            · replace h := (if_pos hc).symm.trans h
              refine am_Y.run (k := 2) (pc' := 72) (lv' := [(0, .int x0)]) (st' := [.int (7 : Int32)]) (h' := hp M) rfl ?_
              subst h
              exact am_Y.ret rfl
            · replace h := (if_neg hc).symm.trans h
              refine am_Y.run (k := 2) (pc' := 63) (lv' := [(0, .int x0)]) (st' := [.int (6 : Int32), .int x0]) (h' := hp M) rfl ?_
              refine am_Y.br (c := x0 < (6 : Int32)) _ (t := 71) (u := 66) (lv' := [(0, .int x0)]) (st' := []) (h' := hp M) rfl (fun hc => ?_) (fun hc => ?_)
              · replace h := (if_pos hc).symm.trans h
                refine am_Y.run (k := 1) (pc' := 72) (lv' := [(0, .int x0)]) (st' := [.int (5 : Int32)]) (h' := hp M) rfl ?_
                subst h
                exact am_Y.ret rfl
              · replace h := (if_neg hc).symm.trans h
                refine am_Y.run (k := 2) (pc' := 72) (lv' := [(0, .int x0)]) (st' := [.int (6 : Int32)]) (h' := hp M) rfl ?_
                subst h
                exact am_Y.ret rfl
          · replace h := (if_neg hc).symm.trans h
            refine am_Y.run (k := 2) (pc' := 72) (lv' := [(0, .int x0)]) (st' := [.int (4 : Int32)]) (h' := hp M) rfl ?_
            subst h
            exact am_Y.ret rfl
  · replace h := (if_neg hc).symm.trans h
    refine am_Y.run (k := 2) (pc' := 72) (lv' := [(0, .int x0)]) (st' := [.int (0 : Int32)]) (h' := hp M) rfl ?_
    subst h
    exact am_Y.ret rfl
set_option maxRecDepth 100000 in
theorem t_m_isAskAhead {S : Nat × (Nat → Int32)} (N : Nat) (M : Mem) (r : Int32) (h : f_m_isAskAhead N M = some r) : am_Y S 3 0 0 am_M350 0 [(0, .ref 129)] [] (hp M) (some (.int r)) (hp M) := by
  rw [f_m_isAskAhead] at h
  refine am_Y.run (k := 1) (pc' := 1) (lv' := [(0, .ref 129)]) (st' := [.ref 129]) (h' := hp M) rfl ?_
  obtain ⟨q1, e_q1, h⟩ := Option.bind_eq_some_iff.mp h
  refine am_Y.call0 (M' := am_M353) (as := [.ref 129]) (rest := []) (d' := 2) rfl (by omega) rfl rfl (t_m_isAskHere N M q1 e_q1) ?_
  refine am_Y.br (c := q1 = (0 : Int32)) _ (t := 40) (u := 7) (lv' := [(0, .ref 129)]) (st' := []) (h' := hp M) rfl (fun hc => ?_) (fun hc => ?_)
  · replace h := (if_pos hc).symm.trans h
    refine am_Y.run (k := 1) (pc' := 41) (lv' := [(0, .ref 129)]) (st' := [.int (0 : Int32)]) (h' := hp M) rfl ?_
    obtain rfl := Option.some.inj h
    exact am_Y.ret rfl
  · replace h := (if_neg hc).symm.trans h
    refine am_Y.run (k := 2) (pc' := 11) (lv' := [(0, .ref 129)]) (st' := [.int (gi M 129 19)]) (h' := hp M) rfl ?_
    refine am_Y.br (c := (gi M 129 19) = (0 : Int32)) _ (t := 36) (u := 14) (lv' := [(0, .ref 129)]) (st' := []) (h' := hp M) rfl (fun hc => ?_) (fun hc => ?_)
    · replace h := (if_pos hc).symm.trans h
      refine am_Y.run (k := 2) (pc' := 41) (lv' := [(0, .ref 129)]) (st' := [.int (1 : Int32)]) (h' := hp M) rfl ?_
      obtain rfl := Option.some.inj h
      exact am_Y.ret rfl
    · replace h := (if_neg hc).symm.trans h
      refine am_Y.run (k := 6) (pc' := 24) (lv' := [(0, .ref 129)]) (st' := [.int ((gi M 129 19) - (1 : Int32)), .ref 134]) (h' := hp M) rfl ?_
      obtain ⟨g, h⟩ := am_itg h
      refine am_Y.iald (a := 129) (n := 160) rfl rfl g ?_
      refine am_Y.call0 (M' := am_M343) (as := [.int (gi M 134 (((gi M 129 19) - (1 : Int32))).toNatClampNeg)]) (rest := []) (d' := 0) rfl (by omega) rfl rfl (t_m_rank (gi M 134 (((gi M 129 19) - (1 : Int32))).toNatClampNeg) M _ rfl) ?_
      refine am_Y.run (k := 2) (pc' := 30) (lv' := [(0, .ref 129)]) (st' := [.int (3 : Int32), .int (1 : Int32), .int (f_m_rank (gi M 134 (((gi M 129 19) - (1 : Int32))).toNatClampNeg) M)]) (h' := hp M) rfl ?_
      refine am_Y.call0 (M' := am_M104) (as := [.int (f_m_rank (gi M 134 (((gi M 129 19) - (1 : Int32))).toNatClampNeg) M), .int (1 : Int32), .int (3 : Int32)]) (rest := []) (d' := 0) rfl (by omega) rfl rfl (t_m_isIn (f_m_rank (gi M 134 (((gi M 129 19) - (1 : Int32))).toNatClampNeg) M) (1 : Int32) (3 : Int32) M _ rfl) ?_
      refine am_Y.br (c := (f_m_isIn (f_m_rank (gi M 134 (((gi M 129 19) - (1 : Int32))).toNatClampNeg) M) (1 : Int32) (3 : Int32) M) = (0 : Int32)) _ (t := 40) (u := 36) (lv' := [(0, .ref 129)]) (st' := []) (h' := hp M) rfl (fun hc => ?_) (fun hc => ?_)
      · replace h := (if_pos hc).symm.trans h
        refine am_Y.run (k := 1) (pc' := 41) (lv' := [(0, .ref 129)]) (st' := [.int (0 : Int32)]) (h' := hp M) rfl ?_
        obtain rfl := Option.some.inj h
        exact am_Y.ret rfl
      · replace h := (if_neg hc).symm.trans h
        refine am_Y.run (k := 2) (pc' := 41) (lv' := [(0, .ref 129)]) (st' := [.int (1 : Int32)]) (h' := hp M) rfl ?_
        obtain rfl := Option.some.inj h
        exact am_Y.ret rfl
set_option maxRecDepth 100000 in
theorem t_m_emit {S : Nat × (Nat → Int32)} (x1 : Int32) (x2 : Int32) (M : Mem) (M' : Mem) (h : f_m_emit x1 x2 M = some M') : am_Y S 0 0 0 am_M348 0 [(0, .ref 129), (1, .int x1), (2, .int x2)] [] (hp M) none (hp M') := by
  rw [f_m_emit] at h
  refine am_Y.run (k := 12) (pc' := 19) (lv' := [(0, .ref 129), (1, .int x1), (2, .int x2)]) (st' := [.int x1, .int (((gi M 129 12) + (97 : Int32)) + ((2 : Int32) * (gi M 129 13))), .ref 132]) (h' := hp M) rfl ?_
  obtain ⟨g, h⟩ := am_itg h
  refine am_Y.iast (a := 127) (n := 2820) rfl rfl g ?_
  refine am_Y.run (k := 0) (pc' := _) (lv' := [(0, .ref 129), (1, .int x1), (2, .int x2)]) (st' := []) (h' := hp (si M 132 ((((gi M 129 12) + (97 : Int32)) + ((2 : Int32) * (gi M 129 13)))).toNatClampNeg x1)) rfl ?_
  obtain ⟨q1, e_q1, h⟩ := Option.bind_eq_some_iff.mp h
  rw [Option.some.inj e_q1]
  refine am_Y.run (k := 14) (pc' := 41) (lv' := [(0, .ref 129), (1, .int x1), (2, .int x2)]) (st' := [.int x2, .int ((((gi q1 129 12) + (97 : Int32)) + ((2 : Int32) * (gi q1 129 13))) + (1 : Int32)), .ref 132]) (h' := hp q1) rfl ?_
  obtain ⟨g, h⟩ := am_itg h
  refine am_Y.iast (a := 127) (n := 2820) rfl rfl g ?_
  refine am_Y.run (k := 0) (pc' := _) (lv' := [(0, .ref 129), (1, .int x1), (2, .int x2)]) (st' := []) (h' := hp (si q1 132 (((((gi q1 129 12) + (97 : Int32)) + ((2 : Int32) * (gi q1 129 13))) + (1 : Int32))).toNatClampNeg x2)) rfl ?_
  obtain ⟨q2, e_q2, h⟩ := Option.bind_eq_some_iff.mp h
  rw [Option.some.inj e_q2]
  refine am_Y.run (k := 6) (pc' := 52) (lv' := [(0, .ref 129), (1, .int x1), (2, .int x2)]) (st' := []) (h' := hp (si q2 129 13 ((gi q2 129 13) + (1 : Int32)))) rfl ?_
  obtain ⟨q3, e_q3, h⟩ := Option.bind_eq_some_iff.mp h
  rw [Option.some.inj e_q3]
  obtain rfl := Option.some.inj h
  exact am_Y.ret rfl
set_option maxRecDepth 100000 in
theorem t_m_settle_0 {S : Nat × (Nat → Int32)} (N : Nat) : ∀ (n : Nat) (x1 : Int32) (M : Mem) (M' : Mem), f_m_settle_0 N n x1 M = some M' → am_Y S 1 0 0 am_M336 0 [(0, .ref 129), (1, .int x1)] [] (hp M) none (hp M') := by
  intro n
  induction n with
  | zero =>
    intro x1 M M' h
    cases h
  | succ n ih =>
    intro x1 M M' h
    rw [f_m_settle_0] at h
    refine am_Y.run (k := 2) (pc' := 4) (lv' := [(0, .ref 129), (1, .int x1)]) (st' := [.int (gi M 129 19)]) (h' := hp M) rfl ?_
    refine am_Y.br (c := (gi M 129 19) ≤ (0 : Int32)) _ (t := 89) (u := 7) (lv' := [(0, .ref 129), (1, .int x1)]) (st' := []) (h' := hp M) rfl (fun hc => ?_) (fun hc => ?_)
    · replace h := (if_pos hc).symm.trans h
      obtain rfl := Option.some.inj h
      exact am_Y.ret rfl
    · replace h := (if_neg hc).symm.trans h
      refine am_Y.run (k := 6) (pc' := 17) (lv' := [(0, .ref 129), (1, .int x1)]) (st' := [.int ((gi M 129 19) - (1 : Int32)), .ref 134]) (h' := hp M) rfl ?_
      obtain ⟨g, h⟩ := am_itg h
      refine am_Y.iald (a := 129) (n := 160) rfl rfl g ?_
      refine am_Y.call0 (M' := am_M343) (as := [.int (gi M 134 (((gi M 129 19) - (1 : Int32))).toNatClampNeg)]) (rest := []) (d' := 0) rfl (by omega) rfl rfl (t_m_rank (gi M 134 (((gi M 129 19) - (1 : Int32))).toNatClampNeg) M _ rfl) ?_
      refine am_Y.run (k := 1) (pc' := 22) (lv' := [(0, .ref 129), (1, .int x1)]) (st' := [.int x1, .int (f_m_rank (gi M 134 (((gi M 129 19) - (1 : Int32))).toNatClampNeg) M)]) (h' := hp M) rfl ?_
      refine am_Y.br (c := (f_m_rank (gi M 134 (((gi M 129 19) - (1 : Int32))).toNatClampNeg) M) < x1) _ (t := 89) (u := 25) (lv' := [(0, .ref 129), (1, .int x1)]) (st' := []) (h' := hp M) rfl (fun hc => ?_) (fun hc => ?_)
      · replace h := (if_pos hc).symm.trans h
        obtain rfl := Option.some.inj h
        exact am_Y.ret rfl
      · replace h := (if_neg hc).symm.trans h
        refine am_Y.run (k := 6) (pc' := 35) (lv' := [(0, .ref 129), (1, .int x1)]) (st' := []) (h' := hp (si M 129 19 ((gi M 129 19) - (1 : Int32)))) rfl ?_
        obtain ⟨q1, e_q1, h⟩ := Option.bind_eq_some_iff.mp h
        rw [Option.some.inj e_q1]
        refine am_Y.run (k := 5) (pc' := 44) (lv' := [(0, .ref 129), (1, .int x1)]) (st' := [.int (gi q1 129 19), .ref 134, .ref 129]) (h' := hp q1) rfl ?_
        obtain ⟨g, h⟩ := am_itg h
        refine am_Y.iald (a := 129) (n := 160) rfl rfl g ?_
        refine am_Y.run (k := 1) (pc' := 46) (lv' := [(0, .ref 129), (1, .int x1)]) (st' := [.int (0 : Int32), .int (gi q1 134 ((gi q1 129 19)).toNatClampNeg), .ref 129]) (h' := hp q1) rfl ?_
        obtain ⟨q2, e_q2, h⟩ := Option.bind_eq_some_iff.mp h
        refine am_Y.call0 (M' := am_M348) (as := [.ref 129, .int (gi q1 134 ((gi q1 129 19)).toNatClampNeg), .int (0 : Int32)]) (rest := []) (d' := 0) rfl (by omega) rfl rfl (t_m_emit (gi q1 134 ((gi q1 129 19)).toNatClampNeg) (0 : Int32) q1 q2 e_q2) ?_
        refine am_Y.run (k := 4) (pc' := 57) (lv' := [(0, .ref 129), (1, .int x1)]) (st' := [.int (gi q2 129 19), .ref 134]) (h' := hp q2) rfl ?_
        obtain ⟨g, h⟩ := am_itg h
        refine am_Y.iald (a := 129) (n := 160) rfl rfl g ?_
        refine am_Y.run (k := 1) (pc' := 59) (lv' := [(0, .ref 129), (1, .int x1)]) (st' := [.int (3 : Int32), .int (gi q2 134 ((gi q2 129 19)).toNatClampNeg)]) (h' := hp q2) rfl ?_
        refine am_Y.br (c := (gi q2 134 ((gi q2 129 19)).toNatClampNeg) = (3 : Int32)) _ (t := 76) (u := 62) (lv' := [(0, .ref 129), (1, .int x1)]) (st' := []) (h' := hp q2) rfl (fun hc => ?_) (fun hc => ?_)
        · replace h := (if_pos hc).symm.trans h
          refine am_Y.run (k := 6) (pc' := 86) (lv' := [(0, .ref 129), (1, .int x1)]) (st' := []) (h' := hp (si q2 129 20 ((gi q2 129 20) - (1 : Int32)))) rfl ?_
          obtain ⟨q3, e_q3, h⟩ := Option.bind_eq_some_iff.mp h
          rw [Option.some.inj e_q3]
          refine am_Y.run (k := 1) (pc' := 0) (lv' := [(0, .ref 129), (1, .int x1)]) (st' := []) (h' := hp q3) rfl ?_
          refine am_Y.weak (lv2 := [(0, .ref 129), (1, .int x1)]) rfl rfl ⟨rfl, rfl, trivial⟩ ?_
          exact ih x1 q3 _ h
        · replace h := (if_neg hc).symm.trans h
          refine am_Y.run (k := 4) (pc' := 70) (lv' := [(0, .ref 129), (1, .int x1)]) (st' := [.int (gi q2 129 19), .ref 134]) (h' := hp q2) rfl ?_
          obtain ⟨g, h⟩ := am_itg h
          refine am_Y.iald (a := 129) (n := 160) rfl rfl g ?_
          refine am_Y.run (k := 1) (pc' := 73) (lv' := [(0, .ref 129), (1, .int x1)]) (st' := [.int (20 : Int32), .int (gi q2 134 ((gi q2 129 19)).toNatClampNeg)]) (h' := hp q2) rfl ?_
          refine am_Y.br (c := (gi q2 134 ((gi q2 129 19)).toNatClampNeg) = (20 : Int32)) _ (t := 76) (u := 0) (lv' := [(0, .ref 129), (1, .int x1)]) (st' := []) (h' := hp q2) rfl (fun hc => ?_) (fun hc => ?_)
          · replace h := (if_pos hc).symm.trans h
            refine am_Y.run (k := 6) (pc' := 86) (lv' := [(0, .ref 129), (1, .int x1)]) (st' := []) (h' := hp (si q2 129 20 ((gi q2 129 20) - (1 : Int32)))) rfl ?_
            obtain ⟨q4, e_q4, h⟩ := Option.bind_eq_some_iff.mp h
            rw [Option.some.inj e_q4]
            refine am_Y.run (k := 1) (pc' := 0) (lv' := [(0, .ref 129), (1, .int x1)]) (st' := []) (h' := hp q4) rfl ?_
            refine am_Y.weak (lv2 := [(0, .ref 129), (1, .int x1)]) rfl rfl ⟨rfl, rfl, trivial⟩ ?_
            exact ih x1 q4 _ h
          · replace h := (if_neg hc).symm.trans h
            refine am_Y.weak (lv2 := [(0, .ref 129), (1, .int x1)]) rfl rfl ⟨rfl, rfl, trivial⟩ ?_
            exact ih x1 q2 _ h
set_option maxRecDepth 100000 in
theorem t_m_settle {S : Nat × (Nat → Int32)} (N : Nat) (x1 : Int32) (M : Mem) (M' : Mem) (h : f_m_settle N x1 M = some M') : am_Y S 1 0 0 am_M336 0 [(0, .ref 129), (1, .int x1)] [] (hp M) none (hp M') := by
  rw [f_m_settle] at h
  refine am_Y.weak (lv2 := [(0, .ref 129), (1, .int x1)]) rfl rfl ⟨rfl, rfl, trivial⟩ ?_
  exact t_m_settle_0 N N x1 M _ h
set_option maxRecDepth 100000 in
theorem t_m_beginOne_65 {S : Nat × (Nat → Int32)} (N : Nat) (x1 : Int32) (s1 : Int32) (M : Mem) (r : Int32) (M' : Mem) (h : f_m_beginOne_65 N x1 s1 M = some (r, M')) : am_Y S 6 0 0 am_M333 65 [(0, .ref 129), (1, .int x1)] [.int s1, .ref 129] (hp M) (some (.int r)) (hp M') := by
  rw [f_m_beginOne_65] at h
  refine am_Y.run (k := 3) (pc' := 70) (lv' := [(0, .ref 129), (1, .int x1)]) (st' := [.int (1 : Int32), .int (gi M 129 9), .int s1, .ref 129]) (h' := hp M) rfl ?_
  refine am_Y.br (c := (gi M 129 9) = (1 : Int32)) _ (t := 73) (u := 80) (lv' := [(0, .ref 129), (1, .int x1)]) (st' := [.int s1, .ref 129]) (h' := hp M) rfl (fun hc => ?_) (fun hc => ?_)
  · replace h := (if_pos hc).symm.trans h
    refine am_Y.run (k := 3) (pc' := 81) (lv' := [(0, .ref 129), (1, .int x1)]) (st' := [.int (gi M 129 10), .int s1, .ref 129]) (h' := hp M) rfl ?_
    obtain ⟨q6, e_q6, h⟩ := Option.bind_eq_some_iff.mp h
    refine am_Y.call0 (M' := am_M348) (as := [.ref 129, .int s1, .int (gi M 129 10)]) (rest := []) (d' := 0) rfl (by omega) rfl rfl (t_m_emit s1 (gi M 129 10) M q6 e_q6) ?_
    refine am_Y.run (k := 1) (pc' := 85) (lv' := [(0, .ref 129), (1, .int x1)]) (st' := [.ref 129]) (h' := hp q6) rfl ?_
    obtain ⟨q7, e_q7, h⟩ := Option.bind_eq_some_iff.mp h
    refine am_Y.call0 (M' := am_M228) (as := [.ref 129]) (rest := []) (d' := 1) rfl (by omega) rfl rfl (t_m_nextToken N q6 q7 e_q7) ?_
    refine am_Y.run (k := 3) (pc' := 93) (lv' := [(0, .ref 129), (1, .int x1)]) (st' := []) (h' := hp (si q7 129 22 (1 : Int32))) rfl ?_
    obtain ⟨q8, e_q8, h⟩ := Option.bind_eq_some_iff.mp h
    rw [Option.some.inj e_q8]
    refine am_Y.run (k := 2) (pc' := 96) (lv' := [(0, .ref 129), (1, .int x1)]) (st' := [.int (7 : Int32), .ref 129]) (h' := hp q8) rfl ?_
    obtain ⟨q9, e_q9, h⟩ := Option.bind_eq_some_iff.mp h
    refine am_Y.call0 (M' := am_M336) (as := [.ref 129, .int (7 : Int32)]) (rest := []) (d' := 1) rfl (by omega) rfl rfl (t_m_settle N (7 : Int32) q8 q9 e_q9) ?_
    refine am_Y.run (k := 1) (pc' := 100) (lv' := [(0, .ref 129), (1, .int x1)]) (st' := [.int (0 : Int32)]) (h' := hp q9) rfl ?_
    obtain ⟨rfl, rfl⟩ := Prod.mk.inj (Option.some.inj h)
    exact am_Y.ret rfl
  · replace h := (if_neg hc).symm.trans h
    refine am_Y.run (k := 1) (pc' := 81) (lv' := [(0, .ref 129), (1, .int x1)]) (st' := [.int x1, .int s1, .ref 129]) (h' := hp M) rfl ?_
    obtain ⟨q10, e_q10, h⟩ := Option.bind_eq_some_iff.mp h
    refine am_Y.call0 (M' := am_M348) (as := [.ref 129, .int s1, .int x1]) (rest := []) (d' := 0) rfl (by omega) rfl rfl (t_m_emit s1 x1 M q10 e_q10) ?_
    refine am_Y.run (k := 1) (pc' := 85) (lv' := [(0, .ref 129), (1, .int x1)]) (st' := [.ref 129]) (h' := hp q10) rfl ?_
    obtain ⟨q11, e_q11, h⟩ := Option.bind_eq_some_iff.mp h
    refine am_Y.call0 (M' := am_M228) (as := [.ref 129]) (rest := []) (d' := 1) rfl (by omega) rfl rfl (t_m_nextToken N q10 q11 e_q11) ?_
    refine am_Y.run (k := 3) (pc' := 93) (lv' := [(0, .ref 129), (1, .int x1)]) (st' := []) (h' := hp (si q11 129 22 (1 : Int32))) rfl ?_
    obtain ⟨q12, e_q12, h⟩ := Option.bind_eq_some_iff.mp h
    rw [Option.some.inj e_q12]
    refine am_Y.run (k := 2) (pc' := 96) (lv' := [(0, .ref 129), (1, .int x1)]) (st' := [.int (7 : Int32), .ref 129]) (h' := hp q12) rfl ?_
    obtain ⟨q13, e_q13, h⟩ := Option.bind_eq_some_iff.mp h
    refine am_Y.call0 (M' := am_M336) (as := [.ref 129, .int (7 : Int32)]) (rest := []) (d' := 1) rfl (by omega) rfl rfl (t_m_settle N (7 : Int32) q12 q13 e_q13) ?_
    refine am_Y.run (k := 1) (pc' := 100) (lv' := [(0, .ref 129), (1, .int x1)]) (st' := [.int (0 : Int32)]) (h' := hp q13) rfl ?_
    obtain ⟨rfl, rfl⟩ := Prod.mk.inj (Option.some.inj h)
    exact am_Y.ret rfl
set_option maxRecDepth 100000 in
theorem t_m_beginOne_39 {S : Nat × (Nat → Int32)} (N : Nat) (x1 : Int32) (M : Mem) (r : Int32) (M' : Mem) (h : f_m_beginOne_39 N x1 M = some (r, M')) : am_Y S 6 0 0 am_M333 39 [(0, .ref 129), (1, .int x1)] [] (hp M) (some (.int r)) (hp M') := by
  rw [f_m_beginOne_39] at h
  refine am_Y.run (k := 3) (pc' := 44) (lv' := [(0, .ref 129), (1, .int x1)]) (st' := [.int (1 : Int32), .int (gi M 129 9)]) (h' := hp M) rfl ?_
  refine am_Y.br (c := (gi M 129 9) = (1 : Int32)) _ (t := 51) (u := 47) (lv' := [(0, .ref 129), (1, .int x1)]) (st' := []) (h' := hp M) rfl (fun hc => ?_) (fun hc => ?_)
  · replace h := (if_pos hc).symm.trans h
    refine am_Y.run (k := 4) (pc' := 57) (lv' := [(0, .ref 129), (1, .int x1)]) (st' := [.int (1 : Int32), .int (gi M 129 9), .ref 129]) (h' := hp M) rfl ?_
    refine am_Y.br (c := (gi M 129 9) = (1 : Int32)) _ (t := 60) (u := 64) (lv' := [(0, .ref 129), (1, .int x1)]) (st' := [.ref 129]) (h' := hp M) rfl (fun hc => ?_) (fun hc => ?_)
    · replace h := (if_pos hc).symm.trans h
      refine am_Y.run (k := 2) (pc' := 65) (lv' := [(0, .ref 129), (1, .int x1)]) (st' := [.int (0 : Int32), .ref 129]) (h' := hp M) rfl ?_
      refine am_Y.weak (lv2 := [(0, .ref 129), (1, .int x1)]) rfl rfl ⟨rfl, rfl, trivial⟩ ?_
      exact t_m_beginOne_65 N x1 (0 : Int32) M _ _ h
    · replace h := (if_neg hc).symm.trans h
      refine am_Y.run (k := 1) (pc' := 65) (lv' := [(0, .ref 129), (1, .int x1)]) (st' := [.int (1 : Int32), .ref 129]) (h' := hp M) rfl ?_
      refine am_Y.weak (lv2 := [(0, .ref 129), (1, .int x1)]) rfl rfl ⟨rfl, rfl, trivial⟩ ?_
      exact t_m_beginOne_65 N x1 (1 : Int32) M _ _ h
  · replace h := (if_neg hc).symm.trans h
    refine am_Y.run (k := 1) (pc' := 48) (lv' := [(0, .ref 129), (1, .int x1)]) (st' := [.int x1]) (h' := hp M) rfl ?_
    refine am_Y.br (c := x1 < (0 : Int32)) _ (t := 101) (u := 51) (lv' := [(0, .ref 129), (1, .int x1)]) (st' := []) (h' := hp M) rfl (fun hc => ?_) (fun hc => ?_)
    · replace h := (if_pos hc).symm.trans h
      refine am_Y.run (k := 3) (pc' := 107) (lv' := [(0, .ref 129), (1, .int x1)]) (st' := [.int (40 : Int32), .int (gi M 129 9)]) (h' := hp M) rfl ?_
      refine am_Y.br (c := (gi M 129 9) = (40 : Int32)) _ (t := 110) (u := 117) (lv' := [(0, .ref 129), (1, .int x1)]) (st' := []) (h' := hp M) rfl (fun hc => ?_) (fun hc => ?_)
      · replace h := (if_pos hc).symm.trans h
        refine am_Y.run (k := 2) (pc' := 113) (lv' := [(0, .ref 129), (1, .int x1)]) (st' := [.int (40 : Int32), .ref 129]) (h' := hp M) rfl ?_
        obtain ⟨q1, e_q1, h⟩ := Option.bind_eq_some_iff.mp h
        refine am_Y.call0 (M' := am_M349) (as := [.ref 129, .int (40 : Int32)]) (rest := []) (d' := 2) rfl (by omega) rfl rfl (t_m_opened N (40 : Int32) M q1.1 q1.2 e_q1) ?_
        obtain ⟨rfl, rfl⟩ := Prod.mk.inj (Option.some.inj h)
        exact am_Y.ret rfl
      · replace h := (if_neg hc).symm.trans h
        refine am_Y.run (k := 3) (pc' := 123) (lv' := [(0, .ref 129), (1, .int x1)]) (st' := [.int (45 : Int32), .int (gi M 129 9)]) (h' := hp M) rfl ?_
        refine am_Y.br (c := (gi M 129 9) = (45 : Int32)) _ (t := 126) (u := 132) (lv' := [(0, .ref 129), (1, .int x1)]) (st' := []) (h' := hp M) rfl (fun hc => ?_) (fun hc => ?_)
        · replace h := (if_pos hc).symm.trans h
          refine am_Y.run (k := 2) (pc' := 128) (lv' := [(0, .ref 129), (1, .int x1)]) (st' := [.int (3 : Int32), .ref 129]) (h' := hp M) rfl ?_
          obtain ⟨q2, e_q2, h⟩ := Option.bind_eq_some_iff.mp h
          refine am_Y.call0 (M' := am_M349) (as := [.ref 129, .int (3 : Int32)]) (rest := []) (d' := 2) rfl (by omega) rfl rfl (t_m_opened N (3 : Int32) M q2.1 q2.2 e_q2) ?_
          obtain ⟨rfl, rfl⟩ := Prod.mk.inj (Option.some.inj h)
          exact am_Y.ret rfl
        · replace h := (if_neg hc).symm.trans h
          refine am_Y.run (k := 7) (pc' := 145) (lv' := [(0, .ref 129), (1, .int x1)]) (st' := [.int (101 : Int32), .int (115 : Int32), .int (111 : Int32), .int (111 : Int32), .int (104 : Int32), .int (99 : Int32), .ref 129]) (h' := hp M) rfl ?_
          refine am_Y.call0 (M' := am_M307) (as := [.int (99 : Int32), .int (104 : Int32), .int (111 : Int32), .int (111 : Int32), .int (115 : Int32), .int (101 : Int32)]) (rest := [.ref 129]) (d' := 4) rfl (by omega) rfl rfl (t_m_w6 (99 : Int32) (104 : Int32) (111 : Int32) (111 : Int32) (115 : Int32) (101 : Int32) M (109300197323621 : Int64) (by exact (by decide : f_m_w6 (99 : Int32) (104 : Int32) (111 : Int32) (111 : Int32) (115 : Int32) (101 : Int32) (fun _ _ => 0, fun _ _ => 0) = (109300197323621 : Int64)))) ?_
          refine am_Y.call0 (M' := am_M308) (as := [.ref 129, .long (109300197323621 : Int64)]) (rest := []) (d' := 0) rfl (by omega) rfl rfl (t_m_isWord (109300197323621 : Int64) M _ rfl) ?_
          refine am_Y.br (c := (f_m_isWord (109300197323621 : Int64) M) = (0 : Int32)) _ (t := 161) (u := 154) (lv' := [(0, .ref 129), (1, .int x1)]) (st' := []) (h' := hp M) rfl (fun hc => ?_) (fun hc => ?_)
          · replace h := (if_pos hc).symm.trans h
            refine am_Y.run (k := 4) (pc' := 168) (lv' := [(0, .ref 129), (1, .int x1)]) (st' := [.int (116 : Int32), .int (111 : Int32), .int (110 : Int32), .ref 129]) (h' := hp M) rfl ?_
            refine am_Y.call0 (M' := am_M309) (as := [.int (110 : Int32), .int (111 : Int32), .int (116 : Int32)]) (rest := [.ref 129]) (d' := 1) rfl (by omega) rfl rfl (t_m_w3 (110 : Int32) (111 : Int32) (116 : Int32) M (7237492 : Int64) (by exact (by decide : f_m_w3 (110 : Int32) (111 : Int32) (116 : Int32) (fun _ _ => 0, fun _ _ => 0) = (7237492 : Int64)))) ?_
            refine am_Y.call0 (M' := am_M308) (as := [.ref 129, .long (7237492 : Int64)]) (rest := []) (d' := 0) rfl (by omega) rfl rfl (t_m_isWord (7237492 : Int64) M _ rfl) ?_
            refine am_Y.br (c := (f_m_isWord (7237492 : Int64) M) = (0 : Int32)) _ (t := 193) (u := 177) (lv' := [(0, .ref 129), (1, .int x1)]) (st' := []) (h' := hp M) rfl (fun hc => ?_) (fun hc => ?_)
            · replace h := (if_pos hc).symm.trans h
              refine am_Y.run (k := 1) (pc' := 194) (lv' := [(0, .ref 129), (1, .int x1)]) (st' := [.int (1 : Int32)]) (h' := hp M) rfl ?_
              obtain ⟨rfl, rfl⟩ := Prod.mk.inj (Option.some.inj h)
              exact am_Y.ret rfl
            · replace h := (if_neg hc).symm.trans h
              refine am_Y.run (k := 1) (pc' := 178) (lv' := [(0, .ref 129), (1, .int x1)]) (st' := [.ref 129]) (h' := hp M) rfl ?_
              obtain ⟨q3, e_q3, h⟩ := Option.bind_eq_some_iff.mp h
              refine am_Y.call0 (M' := am_M350) (as := [.ref 129]) (rest := []) (d' := 3) rfl (by omega) rfl rfl (t_m_isAskAhead N M q3 e_q3) ?_
              refine am_Y.br (c := q3 = (0 : Int32)) _ (t := 193) (u := 184) (lv' := [(0, .ref 129), (1, .int x1)]) (st' := []) (h' := hp M) rfl (fun hc => ?_) (fun hc => ?_)
              · replace h := (if_pos hc).symm.trans h
                refine am_Y.run (k := 1) (pc' := 194) (lv' := [(0, .ref 129), (1, .int x1)]) (st' := [.int (1 : Int32)]) (h' := hp M) rfl ?_
                obtain ⟨rfl, rfl⟩ := Prod.mk.inj (Option.some.inj h)
                exact am_Y.ret rfl
              · replace h := (if_neg hc).symm.trans h
                refine am_Y.run (k := 2) (pc' := 187) (lv' := [(0, .ref 129), (1, .int x1)]) (st' := [.int (20 : Int32), .ref 129]) (h' := hp M) rfl ?_
                obtain ⟨q4, e_q4, h⟩ := Option.bind_eq_some_iff.mp h
                refine am_Y.call0 (M' := am_M349) (as := [.ref 129, .int (20 : Int32)]) (rest := []) (d' := 2) rfl (by omega) rfl rfl (t_m_opened N (20 : Int32) M q4.1 q4.2 e_q4) ?_
                refine am_Y.run (k := 1) (pc' := 194) (lv' := [(0, .ref 129), (1, .int x1)]) (st' := [.int q4.1]) (h' := hp q4.2) rfl ?_
                obtain ⟨rfl, rfl⟩ := Prod.mk.inj (Option.some.inj h)
                exact am_Y.ret rfl
          · replace h := (if_neg hc).symm.trans h
            refine am_Y.run (k := 2) (pc' := 157) (lv' := [(0, .ref 129), (1, .int x1)]) (st' := [.int (41 : Int32), .ref 129]) (h' := hp M) rfl ?_
            obtain ⟨q5, e_q5, h⟩ := Option.bind_eq_some_iff.mp h
            refine am_Y.call0 (M' := am_M349) (as := [.ref 129, .int (41 : Int32)]) (rest := []) (d' := 2) rfl (by omega) rfl rfl (t_m_opened N (41 : Int32) M q5.1 q5.2 e_q5) ?_
            obtain ⟨rfl, rfl⟩ := Prod.mk.inj (Option.some.inj h)
            exact am_Y.ret rfl
    · replace h := (if_neg hc).symm.trans h
      refine am_Y.run (k := 4) (pc' := 57) (lv' := [(0, .ref 129), (1, .int x1)]) (st' := [.int (1 : Int32), .int (gi M 129 9), .ref 129]) (h' := hp M) rfl ?_
      refine am_Y.br (c := (gi M 129 9) = (1 : Int32)) _ (t := 60) (u := 64) (lv' := [(0, .ref 129), (1, .int x1)]) (st' := [.ref 129]) (h' := hp M) rfl (fun hc => ?_) (fun hc => ?_)
      · replace h := (if_pos hc).symm.trans h
        refine am_Y.run (k := 2) (pc' := 65) (lv' := [(0, .ref 129), (1, .int x1)]) (st' := [.int (0 : Int32), .ref 129]) (h' := hp M) rfl ?_
        refine am_Y.weak (lv2 := [(0, .ref 129), (1, .int x1)]) rfl rfl ⟨rfl, rfl, trivial⟩ ?_
        exact t_m_beginOne_65 N x1 (0 : Int32) M _ _ h
      · replace h := (if_neg hc).symm.trans h
        refine am_Y.run (k := 1) (pc' := 65) (lv' := [(0, .ref 129), (1, .int x1)]) (st' := [.int (1 : Int32), .ref 129]) (h' := hp M) rfl ?_
        refine am_Y.weak (lv2 := [(0, .ref 129), (1, .int x1)]) rfl rfl ⟨rfl, rfl, trivial⟩ ?_
        exact t_m_beginOne_65 N x1 (1 : Int32) M _ _ h
set_option maxRecDepth 100000 in
theorem t_m_beginOne {S : Nat × (Nat → Int32)} (N : Nat) (M : Mem) (r : Int32) (M' : Mem) (h : f_m_beginOne N M = some (r, M')) : am_Y S 6 0 0 am_M333 0 [(0, .ref 129)] [] (hp M) (some (.int r)) (hp M') := by
  rw [f_m_beginOne] at h
  refine am_Y.run (k := 3) (pc' := 5) (lv' := [(0, .ref 129)]) (st' := [.int (1 : Int32), .int (gi M 129 9)]) (h' := hp M) rfl ?_
  refine am_Y.br (c := (gi M 129 9) = (1 : Int32)) _ (t := 8) (u := 20) (lv' := [(0, .ref 129)]) (st' := []) (h' := hp M) rfl (fun hc => ?_) (fun hc => ?_)
  · replace h := (if_pos hc).symm.trans h
    refine am_Y.run (k := 3) (pc' := 15) (lv' := [(0, .ref 129)]) (st' := [.int (9999 : Int32), .int (gi M 129 10)]) (h' := hp M) rfl ?_
    refine am_Y.br (c := (gi M 129 10) ≤ (9999 : Int32)) _ (t := 20) (u := 18) (lv' := [(0, .ref 129)]) (st' := []) (h' := hp M) rfl (fun hc => ?_) (fun hc => ?_)
    · replace h := (if_pos hc).symm.trans h
      refine am_Y.run (k := 1) (pc' := 21) (lv' := [(0, .ref 129)]) (st' := [.ref 129]) (h' := hp M) rfl ?_
      refine am_Y.call0 (M' := am_M346) (as := [.ref 129]) (rest := []) (d' := 5) rfl (by omega) rfl rfl (t_m_nameOf M _ rfl) ?_
      refine am_Y.run (k := 2) (pc' := 26) (lv' := [(1, .int (f_m_nameOf M)), (0, .ref 129)]) (st' := [.int (f_m_nameOf M)]) (h' := hp M) rfl ?_
      refine am_Y.br (c := (f_m_nameOf M) < (0 : Int32)) _ (t := 39) (u := 29) (lv' := [(1, .int (f_m_nameOf M)), (0, .ref 129)]) (st' := []) (h' := hp M) rfl (fun hc => ?_) (fun hc => ?_)
      · replace h := (if_pos hc).symm.trans h
        refine am_Y.weak (lv2 := [(0, .ref 129), (1, .int (f_m_nameOf M))]) rfl rfl ⟨rfl, rfl, trivial⟩ ?_
        exact t_m_beginOne_39 N (f_m_nameOf M) M _ _ h
      · replace h := (if_neg hc).symm.trans h
        refine am_Y.run (k := 2) (pc' := 31) (lv' := [(1, .int (f_m_nameOf M)), (0, .ref 129)]) (st' := [.int (f_m_nameOf M), .ref 129]) (h' := hp M) rfl ?_
        refine am_Y.call0 (M' := am_M347) (as := [.ref 129, .int (f_m_nameOf M)]) (rest := []) (d' := 0) rfl (by omega) rfl rfl (t_m_isOf (f_m_nameOf M) M _ rfl) ?_
        refine am_Y.br (c := (f_m_isOf (f_m_nameOf M) M) = (0 : Int32)) _ (t := 37) (u := 39) (lv' := [(1, .int (f_m_nameOf M)), (0, .ref 129)]) (st' := []) (h' := hp M) rfl (fun hc => ?_) (fun hc => ?_)
        · replace h := (if_pos hc).symm.trans h
          refine am_Y.run (k := 1) (pc' := 38) (lv' := [(1, .int (f_m_nameOf M)), (0, .ref 129)]) (st' := [.int (5 : Int32)]) (h' := hp M) rfl ?_
          obtain ⟨rfl, rfl⟩ := Prod.mk.inj (Option.some.inj h)
          exact am_Y.ret rfl
        · replace h := (if_neg hc).symm.trans h
          refine am_Y.weak (lv2 := [(0, .ref 129), (1, .int (f_m_nameOf M))]) rfl rfl ⟨rfl, rfl, trivial⟩ ?_
          exact t_m_beginOne_39 N (f_m_nameOf M) M _ _ h
    · replace h := (if_neg hc).symm.trans h
      refine am_Y.run (k := 1) (pc' := 19) (lv' := [(0, .ref 129)]) (st' := [.int (2 : Int32)]) (h' := hp M) rfl ?_
      obtain ⟨rfl, rfl⟩ := Prod.mk.inj (Option.some.inj h)
      exact am_Y.ret rfl
  · replace h := (if_neg hc).symm.trans h
    refine am_Y.run (k := 1) (pc' := 21) (lv' := [(0, .ref 129)]) (st' := [.ref 129]) (h' := hp M) rfl ?_
    refine am_Y.call0 (M' := am_M346) (as := [.ref 129]) (rest := []) (d' := 5) rfl (by omega) rfl rfl (t_m_nameOf M _ rfl) ?_
    refine am_Y.run (k := 2) (pc' := 26) (lv' := [(1, .int (f_m_nameOf M)), (0, .ref 129)]) (st' := [.int (f_m_nameOf M)]) (h' := hp M) rfl ?_
    refine am_Y.br (c := (f_m_nameOf M) < (0 : Int32)) _ (t := 39) (u := 29) (lv' := [(1, .int (f_m_nameOf M)), (0, .ref 129)]) (st' := []) (h' := hp M) rfl (fun hc => ?_) (fun hc => ?_)
    · replace h := (if_pos hc).symm.trans h
      refine am_Y.weak (lv2 := [(0, .ref 129), (1, .int (f_m_nameOf M))]) rfl rfl ⟨rfl, rfl, trivial⟩ ?_
      exact t_m_beginOne_39 N (f_m_nameOf M) M _ _ h
    · replace h := (if_neg hc).symm.trans h
      refine am_Y.run (k := 2) (pc' := 31) (lv' := [(1, .int (f_m_nameOf M)), (0, .ref 129)]) (st' := [.int (f_m_nameOf M), .ref 129]) (h' := hp M) rfl ?_
      refine am_Y.call0 (M' := am_M347) (as := [.ref 129, .int (f_m_nameOf M)]) (rest := []) (d' := 0) rfl (by omega) rfl rfl (t_m_isOf (f_m_nameOf M) M _ rfl) ?_
      refine am_Y.br (c := (f_m_isOf (f_m_nameOf M) M) = (0 : Int32)) _ (t := 37) (u := 39) (lv' := [(1, .int (f_m_nameOf M)), (0, .ref 129)]) (st' := []) (h' := hp M) rfl (fun hc => ?_) (fun hc => ?_)
      · replace h := (if_pos hc).symm.trans h
        refine am_Y.run (k := 1) (pc' := 38) (lv' := [(1, .int (f_m_nameOf M)), (0, .ref 129)]) (st' := [.int (5 : Int32)]) (h' := hp M) rfl ?_
        obtain ⟨rfl, rfl⟩ := Prod.mk.inj (Option.some.inj h)
        exact am_Y.ret rfl
      · replace h := (if_neg hc).symm.trans h
        refine am_Y.weak (lv2 := [(0, .ref 129), (1, .int (f_m_nameOf M))]) rfl rfl ⟨rfl, rfl, trivial⟩ ?_
        exact t_m_beginOne_39 N (f_m_nameOf M) M _ _ h
set_option maxRecDepth 100000 in
theorem t_m_isCompared_30 {S : Nat × (Nat → Int32)} (N : Nat) (x1 : Int32) (M : Mem) (r : Int32) (h : f_m_isCompared_30 N x1 M = some r) : am_Y S 1 0 0 am_M335 30 [(0, .ref 129), (1, .int x1)] [] (hp M) (some (.int r)) (hp M) := by
  rw [f_m_isCompared_30] at h
  refine am_Y.run (k := 1) (pc' := 31) (lv' := [(0, .ref 129), (1, .int x1)]) (st' := [.int x1]) (h' := hp M) rfl ?_
  refine am_Y.br (c := x1 < (0 : Int32)) _ (t := 51) (u := 34) (lv' := [(0, .ref 129), (1, .int x1)]) (st' := []) (h' := hp M) rfl (fun hc => ?_) (fun hc => ?_)
  · replace h := (if_pos hc).symm.trans h
    refine am_Y.run (k := 1) (pc' := 52) (lv' := [(0, .ref 129), (1, .int x1)]) (st' := [.int (0 : Int32)]) (h' := hp M) rfl ?_
    obtain rfl := Option.some.inj h
    exact am_Y.ret rfl
  · replace h := (if_neg hc).symm.trans h
    refine am_Y.run (k := 3) (pc' := 39) (lv' := [(0, .ref 129), (1, .int x1)]) (st' := [.int x1, .ref 134]) (h' := hp M) rfl ?_
    obtain ⟨g, h⟩ := am_itg h
    refine am_Y.iald (a := 129) (n := 160) rfl rfl g ?_
    refine am_Y.call0 (M' := am_M343) (as := [.int (gi M 134 (x1).toNatClampNeg)]) (rest := []) (d' := 0) rfl (by omega) rfl rfl (t_m_rank (gi M 134 (x1).toNatClampNeg) M _ rfl) ?_
    refine am_Y.run (k := 1) (pc' := 44) (lv' := [(0, .ref 129), (1, .int x1)]) (st' := [.int (4 : Int32), .int (f_m_rank (gi M 134 (x1).toNatClampNeg) M)]) (h' := hp M) rfl ?_
    refine am_Y.br (c := (f_m_rank (gi M 134 (x1).toNatClampNeg) M) = (4 : Int32)) _ (t := 47) (u := 51) (lv' := [(0, .ref 129), (1, .int x1)]) (st' := []) (h' := hp M) rfl (fun hc => ?_) (fun hc => ?_)
    · replace h := (if_pos hc).symm.trans h
      refine am_Y.run (k := 2) (pc' := 52) (lv' := [(0, .ref 129), (1, .int x1)]) (st' := [.int (1 : Int32)]) (h' := hp M) rfl ?_
      obtain rfl := Option.some.inj h
      exact am_Y.ret rfl
    · replace h := (if_neg hc).symm.trans h
      refine am_Y.run (k := 1) (pc' := 52) (lv' := [(0, .ref 129), (1, .int x1)]) (st' := [.int (0 : Int32)]) (h' := hp M) rfl ?_
      obtain rfl := Option.some.inj h
      exact am_Y.ret rfl
set_option maxRecDepth 100000 in
theorem t_m_isCompared_7 {S : Nat × (Nat → Int32)} (N : Nat) : ∀ (n : Nat) (x1 : Int32) (M : Mem) (r : Int32), f_m_isCompared_7 N n x1 M = some r → am_Y S 1 0 0 am_M335 7 [(0, .ref 129), (1, .int x1)] [] (hp M) (some (.int r)) (hp M) := by
  intro n
  induction n with
  | zero =>
    intro x1 M r h
    cases h
  | succ n ih =>
    intro x1 M r h
    rw [f_m_isCompared_7] at h
    refine am_Y.run (k := 1) (pc' := 8) (lv' := [(0, .ref 129), (1, .int x1)]) (st' := [.int x1]) (h' := hp M) rfl ?_
    refine am_Y.br (c := x1 < (0 : Int32)) _ (t := 30) (u := 11) (lv' := [(0, .ref 129), (1, .int x1)]) (st' := []) (h' := hp M) rfl (fun hc => ?_) (fun hc => ?_)
    · replace h := (if_pos hc).symm.trans h
      refine am_Y.weak (lv2 := [(0, .ref 129), (1, .int x1)]) rfl rfl ⟨rfl, rfl, trivial⟩ ?_
      exact t_m_isCompared_30 N x1 M _ h
    · replace h := (if_neg hc).symm.trans h
      refine am_Y.run (k := 3) (pc' := 16) (lv' := [(0, .ref 129), (1, .int x1)]) (st' := [.int x1, .ref 134]) (h' := hp M) rfl ?_
      obtain ⟨g, h⟩ := am_itg h
      refine am_Y.iald (a := 129) (n := 160) rfl rfl g ?_
      refine am_Y.call0 (M' := am_M343) (as := [.int (gi M 134 (x1).toNatClampNeg)]) (rest := []) (d' := 0) rfl (by omega) rfl rfl (t_m_rank (gi M 134 (x1).toNatClampNeg) M _ rfl) ?_
      refine am_Y.run (k := 1) (pc' := 21) (lv' := [(0, .ref 129), (1, .int x1)]) (st' := [.int (4 : Int32), .int (f_m_rank (gi M 134 (x1).toNatClampNeg) M)]) (h' := hp M) rfl ?_
      refine am_Y.br (c := (f_m_rank (gi M 134 (x1).toNatClampNeg) M) ≤ (4 : Int32)) _ (t := 30) (u := 24) (lv' := [(0, .ref 129), (1, .int x1)]) (st' := []) (h' := hp M) rfl (fun hc => ?_) (fun hc => ?_)
      · replace h := (if_pos hc).symm.trans h
        refine am_Y.weak (lv2 := [(0, .ref 129), (1, .int x1)]) rfl rfl ⟨rfl, rfl, trivial⟩ ?_
        exact t_m_isCompared_30 N x1 M _ h
      · replace h := (if_neg hc).symm.trans h
        refine am_Y.run (k := 2) (pc' := 7) (lv' := [(1, .int (x1 + (-1 : Int32))), (0, .ref 129)]) (st' := []) (h' := hp M) rfl ?_
        refine am_Y.weak (lv2 := [(0, .ref 129), (1, .int (x1 + (-1 : Int32)))]) rfl rfl ⟨rfl, rfl, trivial⟩ ?_
        exact ih (x1 + (-1 : Int32)) M _ h
set_option maxRecDepth 100000 in
theorem t_m_isCompared {S : Nat × (Nat → Int32)} (N : Nat) (M : Mem) (r : Int32) (h : f_m_isCompared N M = some r) : am_Y S 1 0 0 am_M335 0 [(0, .ref 129)] [] (hp M) (some (.int r)) (hp M) := by
  rw [f_m_isCompared] at h
  refine am_Y.run (k := 5) (pc' := 7) (lv' := [(1, .int ((gi M 129 19) - (1 : Int32))), (0, .ref 129)]) (st' := []) (h' := hp M) rfl ?_
  refine am_Y.weak (lv2 := [(0, .ref 129), (1, .int ((gi M 129 19) - (1 : Int32)))]) rfl rfl ⟨rfl, rfl, trivial⟩ ?_
  exact t_m_isCompared_7 N N ((gi M 129 19) - (1 : Int32)) M _ h
set_option maxRecDepth 100000 in
theorem t_m_compareOf {S : Nat × (Nat → Int32)} (M : Mem) (r : Int32) (h : f_m_compareOf M = r) : am_Y S 0 0 0 am_M354 0 [(0, .ref 129)] [] (hp M) (some (.int r)) (hp M) := by
  rw [f_m_compareOf] at h
  refine am_Y.run (k := 3) (pc' := 6) (lv' := [(0, .ref 129)]) (st' := [.int (60 : Int32), .int (gi M 129 9)]) (h' := hp M) rfl ?_
  refine am_Y.br (c := (gi M 129 9) = (60 : Int32)) _ (t := 9) (u := 14) (lv' := [(0, .ref 129)]) (st' := []) (h' := hp M) rfl (fun hc => ?_) (fun hc => ?_)
  · replace h := (if_pos hc).symm.trans h
    refine am_Y.run (k := 2) (pc' := 83) (lv' := [(0, .ref 129)]) (st' := [.int (10 : Int32)]) (h' := hp M) rfl ?_
    subst h
    exact am_Y.ret rfl
  · replace h := (if_neg hc).symm.trans h
    refine am_Y.run (k := 3) (pc' := 19) (lv' := [(0, .ref 129)]) (st' := [.int (4 : Int32), .int (gi M 129 9)]) (h' := hp M) rfl ?_
    refine am_Y.br (c := (gi M 129 9) = (4 : Int32)) _ (t := 22) (u := 27) (lv' := [(0, .ref 129)]) (st' := []) (h' := hp M) rfl (fun hc => ?_) (fun hc => ?_)
    · replace h := (if_pos hc).symm.trans h
      refine am_Y.run (k := 2) (pc' := 83) (lv' := [(0, .ref 129)]) (st' := [.int (11 : Int32)]) (h' := hp M) rfl ?_
      subst h
      exact am_Y.ret rfl
    · replace h := (if_neg hc).symm.trans h
      refine am_Y.run (k := 3) (pc' := 33) (lv' := [(0, .ref 129)]) (st' := [.int (62 : Int32), .int (gi M 129 9)]) (h' := hp M) rfl ?_
      refine am_Y.br (c := (gi M 129 9) = (62 : Int32)) _ (t := 36) (u := 41) (lv' := [(0, .ref 129)]) (st' := []) (h' := hp M) rfl (fun hc => ?_) (fun hc => ?_)
      · replace h := (if_pos hc).symm.trans h
        refine am_Y.run (k := 2) (pc' := 83) (lv' := [(0, .ref 129)]) (st' := [.int (12 : Int32)]) (h' := hp M) rfl ?_
        subst h
        exact am_Y.ret rfl
      · replace h := (if_neg hc).symm.trans h
        refine am_Y.run (k := 3) (pc' := 46) (lv' := [(0, .ref 129)]) (st' := [.int (5 : Int32), .int (gi M 129 9)]) (h' := hp M) rfl ?_
        refine am_Y.br (c := (gi M 129 9) = (5 : Int32)) _ (t := 49) (u := 54) (lv' := [(0, .ref 129)]) (st' := []) (h' := hp M) rfl (fun hc => ?_) (fun hc => ?_)
        · replace h := (if_pos hc).symm.trans h
          refine am_Y.run (k := 2) (pc' := 83) (lv' := [(0, .ref 129)]) (st' := [.int (13 : Int32)]) (h' := hp M) rfl ?_
          subst h
          exact am_Y.ret rfl
        · replace h := (if_neg hc).symm.trans h
          refine am_Y.run (k := 3) (pc' := 60) (lv' := [(0, .ref 129)]) (st' := [.int (61 : Int32), .int (gi M 129 9)]) (h' := hp M) rfl ?_
          refine am_Y.br (c := (gi M 129 9) = (61 : Int32)) _ (t := 63) (u := 68) (lv' := [(0, .ref 129)]) (st' := []) (h' := hp M) rfl (fun hc => ?_) (fun hc => ?_)
          · replace h := (if_pos hc).symm.trans h
            refine am_Y.run (k := 2) (pc' := 83) (lv' := [(0, .ref 129)]) (st' := [.int (14 : Int32)]) (h' := hp M) rfl ?_
            subst h
            exact am_Y.ret rfl
          · replace h := (if_neg hc).symm.trans h
            refine am_Y.run (k := 3) (pc' := 74) (lv' := [(0, .ref 129)]) (st' := [.int (35 : Int32), .int (gi M 129 9)]) (h' := hp M) rfl ?_
            refine am_Y.br (c := (gi M 129 9) = (35 : Int32)) _ (t := 77) (u := 82) (lv' := [(0, .ref 129)]) (st' := []) (h' := hp M) rfl (fun hc => ?_) (fun hc => ?_)
            · replace h := (if_pos hc).symm.trans h
              refine am_Y.run (k := 2) (pc' := 83) (lv' := [(0, .ref 129)]) (st' := [.int (15 : Int32)]) (h' := hp M) rfl ?_
              subst h
              exact am_Y.ret rfl
            · replace h := (if_neg hc).symm.trans h
              refine am_Y.run (k := 1) (pc' := 83) (lv' := [(0, .ref 129)]) (st' := [.int (-1 : Int32)]) (h' := hp M) rfl ?_
              subst h
              exact am_Y.ret rfl
set_option maxRecDepth 100000 in
theorem t_m_betweenOf {S : Nat × (Nat → Int32)} (N : Nat) (M : Mem) (r : Int32) (h : f_m_betweenOf N M = some r) : am_Y S 3 0 0 am_M342 0 [(0, .ref 129)] [] (hp M) (some (.int r)) (hp M) := by
  rw [f_m_betweenOf] at h
  refine am_Y.run (k := 3) (pc' := 6) (lv' := [(0, .ref 129)]) (st' := [.int (43 : Int32), .int (gi M 129 9)]) (h' := hp M) rfl ?_
  refine am_Y.br (c := (gi M 129 9) = (43 : Int32)) _ (t := 9) (u := 11) (lv' := [(0, .ref 129)]) (st' := []) (h' := hp M) rfl (fun hc => ?_) (fun hc => ?_)
  · replace h := (if_pos hc).symm.trans h
    refine am_Y.run (k := 1) (pc' := 10) (lv' := [(0, .ref 129)]) (st' := [.int (4 : Int32)]) (h' := hp M) rfl ?_
    obtain rfl := Option.some.inj h
    exact am_Y.ret rfl
  · replace h := (if_neg hc).symm.trans h
    refine am_Y.run (k := 3) (pc' := 17) (lv' := [(0, .ref 129)]) (st' := [.int (45 : Int32), .int (gi M 129 9)]) (h' := hp M) rfl ?_
    refine am_Y.br (c := (gi M 129 9) = (45 : Int32)) _ (t := 20) (u := 22) (lv' := [(0, .ref 129)]) (st' := []) (h' := hp M) rfl (fun hc => ?_) (fun hc => ?_)
    · replace h := (if_pos hc).symm.trans h
      refine am_Y.run (k := 1) (pc' := 21) (lv' := [(0, .ref 129)]) (st' := [.int (5 : Int32)]) (h' := hp M) rfl ?_
      obtain rfl := Option.some.inj h
      exact am_Y.ret rfl
    · replace h := (if_neg hc).symm.trans h
      refine am_Y.run (k := 3) (pc' := 28) (lv' := [(0, .ref 129)]) (st' := [.int (42 : Int32), .int (gi M 129 9)]) (h' := hp M) rfl ?_
      refine am_Y.br (c := (gi M 129 9) = (42 : Int32)) _ (t := 31) (u := 34) (lv' := [(0, .ref 129)]) (st' := []) (h' := hp M) rfl (fun hc => ?_) (fun hc => ?_)
      · replace h := (if_pos hc).symm.trans h
        refine am_Y.run (k := 1) (pc' := 33) (lv' := [(0, .ref 129)]) (st' := [.int (6 : Int32)]) (h' := hp M) rfl ?_
        obtain rfl := Option.some.inj h
        exact am_Y.ret rfl
      · replace h := (if_neg hc).symm.trans h
        refine am_Y.run (k := 3) (pc' := 40) (lv' := [(0, .ref 129)]) (st' := [.int (47 : Int32), .int (gi M 129 9)]) (h' := hp M) rfl ?_
        refine am_Y.br (c := (gi M 129 9) = (47 : Int32)) _ (t := 43) (u := 46) (lv' := [(0, .ref 129)]) (st' := []) (h' := hp M) rfl (fun hc => ?_) (fun hc => ?_)
        · replace h := (if_pos hc).symm.trans h
          refine am_Y.run (k := 1) (pc' := 45) (lv' := [(0, .ref 129)]) (st' := [.int (7 : Int32)]) (h' := hp M) rfl ?_
          obtain rfl := Option.some.inj h
          exact am_Y.ret rfl
        · replace h := (if_neg hc).symm.trans h
          refine am_Y.run (k := 1) (pc' := 47) (lv' := [(0, .ref 129)]) (st' := [.ref 129]) (h' := hp M) rfl ?_
          obtain ⟨q1, e_q1, h⟩ := Option.bind_eq_some_iff.mp h
          refine am_Y.call0 (M' := am_M353) (as := [.ref 129]) (rest := []) (d' := 2) rfl (by omega) rfl rfl (t_m_isAskHere N M q1 e_q1) ?_
          refine am_Y.br (c := q1 = (0 : Int32)) _ (t := 53) (u := 55) (lv' := [(0, .ref 129)]) (st' := []) (h' := hp M) rfl (fun hc => ?_) (fun hc => ?_)
          · replace h := (if_pos hc).symm.trans h
            refine am_Y.run (k := 1) (pc' := 54) (lv' := [(0, .ref 129)]) (st' := [.int (-1 : Int32)]) (h' := hp M) rfl ?_
            obtain rfl := Option.some.inj h
            exact am_Y.ret rfl
          · replace h := (if_neg hc).symm.trans h
            refine am_Y.run (k := 1) (pc' := 56) (lv' := [(0, .ref 129)]) (st' := [.ref 129]) (h' := hp M) rfl ?_
            obtain ⟨q2, e_q2, h⟩ := Option.bind_eq_some_iff.mp h
            refine am_Y.call0 (M' := am_M335) (as := [.ref 129]) (rest := []) (d' := 1) rfl (by omega) rfl rfl (t_m_isCompared N M q2 e_q2) ?_
            refine am_Y.br (c := q2 = (0 : Int32)) _ (t := 62) (u := 67) (lv' := [(0, .ref 129)]) (st' := []) (h' := hp M) rfl (fun hc => ?_) (fun hc => ?_)
            · replace h := (if_pos hc).symm.trans h
              refine am_Y.run (k := 1) (pc' := 63) (lv' := [(0, .ref 129)]) (st' := [.ref 129]) (h' := hp M) rfl ?_
              refine am_Y.call0 (M' := am_M354) (as := [.ref 129]) (rest := []) (d' := 0) rfl (by omega) rfl rfl (t_m_compareOf M _ rfl) ?_
              obtain rfl := Option.some.inj h
              exact am_Y.ret rfl
            · replace h := (if_neg hc).symm.trans h
              refine am_Y.run (k := 4) (pc' := 74) (lv' := [(0, .ref 129)]) (st' := [.int (100 : Int32), .int (110 : Int32), .int (97 : Int32), .ref 129]) (h' := hp M) rfl ?_
              refine am_Y.call0 (M' := am_M309) (as := [.int (97 : Int32), .int (110 : Int32), .int (100 : Int32)]) (rest := [.ref 129]) (d' := 1) rfl (by omega) rfl rfl (t_m_w3 (97 : Int32) (110 : Int32) (100 : Int32) M (6385252 : Int64) (by exact (by decide : f_m_w3 (97 : Int32) (110 : Int32) (100 : Int32) (fun _ _ => 0, fun _ _ => 0) = (6385252 : Int64)))) ?_
              refine am_Y.call0 (M' := am_M308) (as := [.ref 129, .long (6385252 : Int64)]) (rest := []) (d' := 0) rfl (by omega) rfl rfl (t_m_isWord (6385252 : Int64) M _ rfl) ?_
              refine am_Y.br (c := (f_m_isWord (6385252 : Int64) M) = (0 : Int32)) _ (t := 88) (u := 83) (lv' := [(0, .ref 129)]) (st' := []) (h' := hp M) rfl (fun hc => ?_) (fun hc => ?_)
              · replace h := (if_pos hc).symm.trans h
                refine am_Y.run (k := 3) (pc' := 93) (lv' := [(0, .ref 129)]) (st' := [.int (114 : Int32), .int (111 : Int32), .ref 129]) (h' := hp M) rfl ?_
                refine am_Y.call0 (M' := am_M312) (as := [.int (111 : Int32), .int (114 : Int32)]) (rest := [.ref 129]) (d' := 0) rfl (by omega) rfl rfl (t_m_w2 (111 : Int32) (114 : Int32) M (28530 : Int64) (by exact (by decide : f_m_w2 (111 : Int32) (114 : Int32) (fun _ _ => 0, fun _ _ => 0) = (28530 : Int64)))) ?_
                refine am_Y.call0 (M' := am_M308) (as := [.ref 129, .long (28530 : Int64)]) (rest := []) (d' := 0) rfl (by omega) rfl rfl (t_m_isWord (28530 : Int64) M _ rfl) ?_
                refine am_Y.br (c := (f_m_isWord (28530 : Int64) M) = (0 : Int32)) _ (t := 107) (u := 102) (lv' := [(0, .ref 129)]) (st' := []) (h' := hp M) rfl (fun hc => ?_) (fun hc => ?_)
                · replace h := (if_pos hc).symm.trans h
                  refine am_Y.run (k := 1) (pc' := 108) (lv' := [(0, .ref 129)]) (st' := [.int (-1 : Int32)]) (h' := hp M) rfl ?_
                  obtain rfl := Option.some.inj h
                  exact am_Y.ret rfl
                · replace h := (if_neg hc).symm.trans h
                  refine am_Y.run (k := 2) (pc' := 108) (lv' := [(0, .ref 129)]) (st' := [.int (22 : Int32)]) (h' := hp M) rfl ?_
                  obtain rfl := Option.some.inj h
                  exact am_Y.ret rfl
              · replace h := (if_neg hc).symm.trans h
                refine am_Y.run (k := 2) (pc' := 108) (lv' := [(0, .ref 129)]) (st' := [.int (21 : Int32)]) (h' := hp M) rfl ?_
                obtain rfl := Option.some.inj h
                exact am_Y.ret rfl
set_option maxRecDepth 100000 in
theorem t_m_shut_52 {S : Nat × (Nat → Int32)} (N : Nat) : ∀ (n : Nat) (x2 : Int32) (M : Mem) (M' : Mem), f_m_shut_52 N n x2 M = some M' → am_Y S 2 0 0 am_M344 52 [(0, .ref 129), (2, .int x2)] [] (hp M) none (hp M') := by
  intro n
  induction n with
  | zero =>
    intro x2 M M' h
    cases h
  | succ n ih =>
    intro x2 M M' h
    rw [f_m_shut_52] at h
    refine am_Y.run (k := 5) (pc' := 61) (lv' := [(0, .ref 129), (2, .int x2)]) (st' := [.int (gi M 129 21), .ref 135, .int x2]) (h' := hp M) rfl ?_
    obtain ⟨g, h⟩ := am_itg h
    refine am_Y.iald (a := 130) (n := 9) rfl rfl g ?_
    refine am_Y.br (c := (gi M 135 ((gi M 129 21)).toNatClampNeg) ≤ x2) _ (t := 103) (u := 65) (lv' := [(0, .ref 129), (2, .int x2)]) (st' := []) (h' := hp M) rfl (fun hc => ?_) (fun hc => ?_)
    · replace h := (if_pos hc).symm.trans h
      refine am_Y.run (k := 1) (pc' := 104) (lv' := [(0, .ref 129), (2, .int x2)]) (st' := [.ref 129]) (h' := hp M) rfl ?_
      obtain ⟨q7, e_q7, h⟩ := Option.bind_eq_some_iff.mp h
      refine am_Y.call0 (M' := am_M228) (as := [.ref 129]) (rest := []) (d' := 1) rfl (by omega) rfl rfl (t_m_nextToken N M q7 e_q7) ?_
      refine am_Y.run (k := 2) (pc' := 110) (lv' := [(0, .ref 129), (2, .int x2)]) (st' := [.int (7 : Int32), .ref 129]) (h' := hp q7) rfl ?_
      obtain ⟨q8, e_q8, h⟩ := Option.bind_eq_some_iff.mp h
      refine am_Y.call0 (M' := am_M336) (as := [.ref 129, .int (7 : Int32)]) (rest := []) (d' := 1) rfl (by omega) rfl rfl (t_m_settle N (7 : Int32) q7 q8 e_q8) ?_
      obtain rfl := Option.some.inj h
      exact am_Y.ret rfl
    · replace h := (if_neg hc).symm.trans h
      refine am_Y.run (k := 9) (pc' := 79) (lv' := [(0, .ref 129), (2, .int x2)]) (st' := [.int (((6 : Int32) * (gi M 129 21)) + x2), .ref 136, .ref 129]) (h' := hp M) rfl ?_
      obtain ⟨g, h⟩ := am_itg h
      refine am_Y.iald (a := 131) (n := 54) rfl rfl g ?_
      refine am_Y.run (k := 8) (pc' := 93) (lv' := [(0, .ref 129), (2, .int x2)]) (st' := [.int (((6 : Int32) * (gi M 129 21)) + x2), .ref 137, .int (gi M 136 ((((6 : Int32) * (gi M 129 21)) + x2)).toNatClampNeg), .ref 129]) (h' := hp M) rfl ?_
      obtain ⟨g, h⟩ := am_itg h
      refine am_Y.iald (a := 132) (n := 54) rfl rfl g ?_
      obtain ⟨q9, e_q9, h⟩ := Option.bind_eq_some_iff.mp h
      refine am_Y.call0 (M' := am_M348) (as := [.ref 129, .int (gi M 136 ((((6 : Int32) * (gi M 129 21)) + x2)).toNatClampNeg), .int (gi M 137 ((((6 : Int32) * (gi M 129 21)) + x2)).toNatClampNeg)]) (rest := []) (d' := 0) rfl (by omega) rfl rfl (t_m_emit (gi M 136 ((((6 : Int32) * (gi M 129 21)) + x2)).toNatClampNeg) (gi M 137 ((((6 : Int32) * (gi M 129 21)) + x2)).toNatClampNeg) M q9 e_q9) ?_
      refine am_Y.run (k := 2) (pc' := 52) (lv' := [(2, .int (x2 + (1 : Int32))), (0, .ref 129)]) (st' := []) (h' := hp q9) rfl ?_
      refine am_Y.weak (lv2 := [(0, .ref 129), (2, .int (x2 + (1 : Int32)))]) rfl rfl ⟨rfl, rfl, trivial⟩ ?_
      exact ih (x2 + (1 : Int32)) q9 _ h
set_option maxRecDepth 100000 in
theorem t_m_shut {S : Nat × (Nat → Int32)} (N : Nat) (x1 : Int32) (M : Mem) (M' : Mem) (h : f_m_shut N x1 M = some M') : am_Y S 2 0 0 am_M344 0 [(0, .ref 129), (1, .int x1)] [] (hp M) none (hp M') := by
  rw [f_m_shut] at h
  refine am_Y.run (k := 6) (pc' := 10) (lv' := [(0, .ref 129), (1, .int x1)]) (st' := []) (h' := hp (si M 129 19 ((gi M 129 19) - (1 : Int32)))) rfl ?_
  obtain ⟨q1, e_q1, h⟩ := Option.bind_eq_some_iff.mp h
  rw [Option.some.inj e_q1]
  refine am_Y.run (k := 6) (pc' := 20) (lv' := [(0, .ref 129), (1, .int x1)]) (st' := []) (h' := hp (si q1 129 20 ((gi q1 129 20) - (1 : Int32)))) rfl ?_
  obtain ⟨q2, e_q2, h⟩ := Option.bind_eq_some_iff.mp h
  rw [Option.some.inj e_q2]
  refine am_Y.run (k := 2) (pc' := 23) (lv' := [(0, .ref 129), (1, .int x1)]) (st' := [.int (43 : Int32), .int x1]) (h' := hp q2) rfl ?_
  refine am_Y.br (c := x1 = (43 : Int32)) _ (t := 26) (u := 103) (lv' := [(0, .ref 129), (1, .int x1)]) (st' := []) (h' := hp q2) rfl (fun hc => ?_) (fun hc => ?_)
  · replace h := (if_pos hc).symm.trans h
    refine am_Y.run (k := 6) (pc' := 36) (lv' := [(0, .ref 129), (1, .int x1)]) (st' := []) (h' := hp (si q2 129 21 ((gi q2 129 21) - (1 : Int32)))) rfl ?_
    obtain ⟨q3, e_q3, h⟩ := Option.bind_eq_some_iff.mp h
    rw [Option.some.inj e_q3]
    refine am_Y.run (k := 6) (pc' := 46) (lv' := [(0, .ref 129), (1, .int x1)]) (st' := [.int (gi q3 129 21), .ref 135, .int (2 : Int32), .ref 129]) (h' := hp q3) rfl ?_
    obtain ⟨g, h⟩ := am_itg h
    refine am_Y.iald (a := 130) (n := 9) rfl rfl g ?_
    obtain ⟨q4, e_q4, h⟩ := Option.bind_eq_some_iff.mp h
    refine am_Y.call0 (M' := am_M348) (as := [.ref 129, .int (2 : Int32), .int (gi q3 135 ((gi q3 129 21)).toNatClampNeg)]) (rest := []) (d' := 0) rfl (by omega) rfl rfl (t_m_emit (2 : Int32) (gi q3 135 ((gi q3 129 21)).toNatClampNeg) q3 q4 e_q4) ?_
    refine am_Y.run (k := 2) (pc' := 52) (lv' := [(2, .int (0 : Int32)), (0, .ref 129), (1, .int x1)]) (st' := []) (h' := hp q4) rfl ?_
    refine am_Y.weak (lv2 := [(0, .ref 129), (2, .int (0 : Int32))]) rfl rfl ⟨rfl, rfl, trivial⟩ ?_
    exact t_m_shut_52 N N (0 : Int32) q4 _ h
  · replace h := (if_neg hc).symm.trans h
    refine am_Y.run (k := 1) (pc' := 104) (lv' := [(0, .ref 129), (1, .int x1)]) (st' := [.ref 129]) (h' := hp q2) rfl ?_
    obtain ⟨q5, e_q5, h⟩ := Option.bind_eq_some_iff.mp h
    refine am_Y.call0 (M' := am_M228) (as := [.ref 129]) (rest := []) (d' := 1) rfl (by omega) rfl rfl (t_m_nextToken N q2 q5 e_q5) ?_
    refine am_Y.run (k := 2) (pc' := 110) (lv' := [(0, .ref 129), (1, .int x1)]) (st' := [.int (7 : Int32), .ref 129]) (h' := hp q5) rfl ?_
    obtain ⟨q6, e_q6, h⟩ := Option.bind_eq_some_iff.mp h
    refine am_Y.call0 (M' := am_M336) (as := [.ref 129, .int (7 : Int32)]) (rest := []) (d' := 1) rfl (by omega) rfl rfl (t_m_settle N (7 : Int32) q5 q6 e_q6) ?_
    obtain rfl := Option.some.inj h
    exact am_Y.ret rfl
set_option maxRecDepth 100000 in
theorem t_m_anyNumber {S : Nat × (Nat → Int32)} (M : Mem) (r : Int32) (h : f_m_anyNumber M = r) : am_Y S 0 0 0 am_M355 0 [(0, .ref 129)] [] (hp M) (some (.int r)) (hp M) := by
  rw [f_m_anyNumber] at h
  refine am_Y.run (k := 3) (pc' := 5) (lv' := [(0, .ref 129)]) (st' := [.int (1 : Int32), .int (gi M 129 9)]) (h' := hp M) rfl ?_
  refine am_Y.br (c := (gi M 129 9) = (1 : Int32)) _ (t := 12) (u := 8) (lv' := [(0, .ref 129)]) (st' := []) (h' := hp M) rfl (fun hc => ?_) (fun hc => ?_)
  · replace h := (if_pos hc).symm.trans h
    refine am_Y.run (k := 3) (pc' := 19) (lv' := [(0, .ref 129)]) (st' := [.int (9999 : Int32), .int (gi M 129 10)]) (h' := hp M) rfl ?_
    refine am_Y.br (c := (gi M 129 10) ≤ (9999 : Int32)) _ (t := 26) (u := 22) (lv' := [(0, .ref 129)]) (st' := []) (h' := hp M) rfl (fun hc => ?_) (fun hc => ?_)
    · replace h := (if_pos hc).symm.trans h
      refine am_Y.run (k := 1) (pc' := 27) (lv' := [(0, .ref 129)]) (st' := [.int (0 : Int32)]) (h' := hp M) rfl ?_
      subst h
      exact am_Y.ret rfl
    · replace h := (if_neg hc).symm.trans h
      refine am_Y.run (k := 2) (pc' := 27) (lv' := [(0, .ref 129)]) (st' := [.int (2 : Int32)]) (h' := hp M) rfl ?_
      subst h
      exact am_Y.ret rfl
  · replace h := (if_neg hc).symm.trans h
    refine am_Y.run (k := 2) (pc' := 27) (lv' := [(0, .ref 129)]) (st' := [.int (1 : Int32)]) (h' := hp M) rfl ?_
    subst h
    exact am_Y.ret rfl
set_option maxRecDepth 100000 in
theorem t_m_oneCase_131 {S : Nat × (Nat → Int32)} (N : Nat) (x1 : Int32) (M : Mem) (r : Int32) (M' : Mem) (h : f_m_oneCase_131 N x1 M = some (r, M')) : am_Y S 2 0 0 am_M345 131 [(0, .ref 129), (1, .int x1)] [] (hp M) (some (.int r)) (hp M') := by
  rw [f_m_oneCase_131] at h
  refine am_Y.run (k := 3) (pc' := 137) (lv' := [(0, .ref 129), (1, .int x1)]) (st' := [.int (58 : Int32), .int (gi M 129 9)]) (h' := hp M) rfl ?_
  refine am_Y.br (c := (gi M 129 9) = (58 : Int32)) _ (t := 142) (u := 140) (lv' := [(0, .ref 129), (1, .int x1)]) (st' := []) (h' := hp M) rfl (fun hc => ?_) (fun hc => ?_)
  · replace h := (if_pos hc).symm.trans h
    refine am_Y.run (k := 4) (pc' := 148) (lv' := [(0, .ref 129), (1, .int x1)]) (st' := [.int x1, .ref 135, .int x1, .ref 135]) (h' := hp M) rfl ?_
    obtain ⟨g, h⟩ := am_itg h
    refine am_Y.iald (a := 130) (n := 9) rfl rfl g ?_
    refine am_Y.run (k := 2) (pc' := 151) (lv' := [(0, .ref 129), (1, .int x1)]) (st' := [.int ((gi M 135 (x1).toNatClampNeg) + (1 : Int32)), .int x1, .ref 135]) (h' := hp M) rfl ?_
    obtain ⟨g, h⟩ := am_itg h
    refine am_Y.iast (a := 130) (n := 9) rfl rfl g ?_
    refine am_Y.run (k := 0) (pc' := _) (lv' := [(0, .ref 129), (1, .int x1)]) (st' := []) (h' := hp (si M 135 (x1).toNatClampNeg ((gi M 135 (x1).toNatClampNeg) + (1 : Int32)))) rfl ?_
    obtain ⟨q8, e_q8, h⟩ := Option.bind_eq_some_iff.mp h
    rw [Option.some.inj e_q8]
    refine am_Y.run (k := 1) (pc' := 153) (lv' := [(0, .ref 129), (1, .int x1)]) (st' := [.ref 129]) (h' := hp q8) rfl ?_
    obtain ⟨q9, e_q9, h⟩ := Option.bind_eq_some_iff.mp h
    refine am_Y.call0 (M' := am_M228) (as := [.ref 129]) (rest := []) (d' := 1) rfl (by omega) rfl rfl (t_m_nextToken N q8 q9 e_q9) ?_
    refine am_Y.run (k := 1) (pc' := 157) (lv' := [(0, .ref 129), (1, .int x1)]) (st' := [.int (0 : Int32)]) (h' := hp q9) rfl ?_
    obtain ⟨rfl, rfl⟩ := Prod.mk.inj (Option.some.inj h)
    exact am_Y.ret rfl
  · replace h := (if_neg hc).symm.trans h
    refine am_Y.run (k := 1) (pc' := 141) (lv' := [(0, .ref 129), (1, .int x1)]) (st' := [.int (1 : Int32)]) (h' := hp M) rfl ?_
    obtain ⟨rfl, rfl⟩ := Prod.mk.inj (Option.some.inj h)
    exact am_Y.ret rfl
set_option maxRecDepth 100000 in
theorem t_m_oneCase {S : Nat × (Nat → Int32)} (N : Nat) (M : Mem) (r : Int32) (M' : Mem) (h : f_m_oneCase N M = some (r, M')) : am_Y S 2 0 0 am_M345 0 [(0, .ref 129)] [] (hp M) (some (.int r)) (hp M') := by
  rw [f_m_oneCase] at h
  refine am_Y.run (k := 8) (pc' := 12) (lv' := [(1, .int ((gi M 129 21) - (1 : Int32))), (0, .ref 129)]) (st' := [.int ((gi M 129 21) - (1 : Int32)), .ref 135]) (h' := hp M) rfl ?_
  obtain ⟨g, h⟩ := am_itg h
  refine am_Y.iald (a := 130) (n := 9) rfl rfl g ?_
  refine am_Y.run (k := 1) (pc' := 15) (lv' := [(1, .int ((gi M 129 21) - (1 : Int32))), (0, .ref 129)]) (st' := [.int (6 : Int32), .int (gi M 135 (((gi M 129 21) - (1 : Int32))).toNatClampNeg)]) (h' := hp M) rfl ?_
  refine am_Y.br (c := (gi M 135 (((gi M 129 21) - (1 : Int32))).toNatClampNeg) = (6 : Int32)) _ (t := 18) (u := 21) (lv' := [(1, .int ((gi M 129 21) - (1 : Int32))), (0, .ref 129)]) (st' := []) (h' := hp M) rfl (fun hc => ?_) (fun hc => ?_)
  · replace h := (if_pos hc).symm.trans h
    refine am_Y.run (k := 1) (pc' := 20) (lv' := [(1, .int ((gi M 129 21) - (1 : Int32))), (0, .ref 129)]) (st' := [.int (7 : Int32)]) (h' := hp M) rfl ?_
    obtain ⟨rfl, rfl⟩ := Prod.mk.inj (Option.some.inj h)
    exact am_Y.ret rfl
  · replace h := (if_neg hc).symm.trans h
    refine am_Y.run (k := 1) (pc' := 22) (lv' := [(1, .int ((gi M 129 21) - (1 : Int32))), (0, .ref 129)]) (st' := [.ref 129]) (h' := hp M) rfl ?_
    obtain ⟨q1, e_q1, h⟩ := Option.bind_eq_some_iff.mp h
    refine am_Y.call0 (M' := am_M228) (as := [.ref 129]) (rest := []) (d' := 1) rfl (by omega) rfl rfl (t_m_nextToken N M q1 e_q1) ?_
    refine am_Y.run (k := 1) (pc' := 26) (lv' := [(1, .int ((gi M 129 21) - (1 : Int32))), (0, .ref 129)]) (st' := [.ref 129]) (h' := hp q1) rfl ?_
    refine am_Y.call0 (M' := am_M355) (as := [.ref 129]) (rest := []) (d' := 0) rfl (by omega) rfl rfl (t_m_anyNumber q1 _ rfl) ?_
    refine am_Y.run (k := 2) (pc' := 31) (lv' := [(2, .int (f_m_anyNumber q1)), (1, .int ((gi M 129 21) - (1 : Int32))), (0, .ref 129)]) (st' := [.int (f_m_anyNumber q1)]) (h' := hp q1) rfl ?_
    refine am_Y.br (c := (f_m_anyNumber q1) = (0 : Int32)) _ (t := 36) (u := 34) (lv' := [(2, .int (f_m_anyNumber q1)), (1, .int ((gi M 129 21) - (1 : Int32))), (0, .ref 129)]) (st' := []) (h' := hp q1) rfl (fun hc => ?_) (fun hc => ?_)
    · replace h := (if_pos hc).symm.trans h
      refine am_Y.run (k := 6) (pc' := 45) (lv' := [(2, .int (f_m_anyNumber q1)), (1, .int ((gi M 129 21) - (1 : Int32))), (0, .ref 129)]) (st' := [.int ((gi M 129 21) - (1 : Int32)), .ref 135, .int ((6 : Int32) * ((gi M 129 21) - (1 : Int32)))]) (h' := hp q1) rfl ?_
      obtain ⟨g, h⟩ := am_itg h
      refine am_Y.iald (a := 130) (n := 9) rfl rfl g ?_
      refine am_Y.run (k := 7) (pc' := 57) (lv' := [(3, .int (((6 : Int32) * ((gi M 129 21) - (1 : Int32))) + (gi q1 135 (((gi M 129 21) - (1 : Int32))).toNatClampNeg))), (2, .int (f_m_anyNumber q1)), (1, .int ((gi M 129 21) - (1 : Int32))), (0, .ref 129)]) (st' := [.int (gi q1 129 10), .int (((6 : Int32) * ((gi M 129 21) - (1 : Int32))) + (gi q1 135 (((gi M 129 21) - (1 : Int32))).toNatClampNeg)), .ref 136]) (h' := hp q1) rfl ?_
      obtain ⟨g, h⟩ := am_itg h
      refine am_Y.iast (a := 131) (n := 54) rfl rfl g ?_
      refine am_Y.run (k := 0) (pc' := _) (lv' := [(3, .int (((6 : Int32) * ((gi M 129 21) - (1 : Int32))) + (gi q1 135 (((gi M 129 21) - (1 : Int32))).toNatClampNeg))), (2, .int (f_m_anyNumber q1)), (1, .int ((gi M 129 21) - (1 : Int32))), (0, .ref 129)]) (st' := []) (h' := hp (si q1 136 ((((6 : Int32) * ((gi M 129 21) - (1 : Int32))) + (gi q1 135 (((gi M 129 21) - (1 : Int32))).toNatClampNeg))).toNatClampNeg (gi q1 129 10))) rfl ?_
      obtain ⟨q2, e_q2, h⟩ := Option.bind_eq_some_iff.mp h
      rw [Option.some.inj e_q2]
      refine am_Y.run (k := 5) (pc' := 67) (lv' := [(3, .int (((6 : Int32) * ((gi M 129 21) - (1 : Int32))) + (gi q1 135 (((gi M 129 21) - (1 : Int32))).toNatClampNeg))), (2, .int (f_m_anyNumber q1)), (1, .int ((gi M 129 21) - (1 : Int32))), (0, .ref 129)]) (st' := [.int (gi q2 129 10), .int (((6 : Int32) * ((gi M 129 21) - (1 : Int32))) + (gi q1 135 (((gi M 129 21) - (1 : Int32))).toNatClampNeg)), .ref 137]) (h' := hp q2) rfl ?_
      obtain ⟨g, h⟩ := am_itg h
      refine am_Y.iast (a := 132) (n := 54) rfl rfl g ?_
      refine am_Y.run (k := 0) (pc' := _) (lv' := [(3, .int (((6 : Int32) * ((gi M 129 21) - (1 : Int32))) + (gi q1 135 (((gi M 129 21) - (1 : Int32))).toNatClampNeg))), (2, .int (f_m_anyNumber q1)), (1, .int ((gi M 129 21) - (1 : Int32))), (0, .ref 129)]) (st' := []) (h' := hp (si q2 137 ((((6 : Int32) * ((gi M 129 21) - (1 : Int32))) + (gi q1 135 (((gi M 129 21) - (1 : Int32))).toNatClampNeg))).toNatClampNeg (gi q2 129 10))) rfl ?_
      obtain ⟨q3, e_q3, h⟩ := Option.bind_eq_some_iff.mp h
      rw [Option.some.inj e_q3]
      refine am_Y.run (k := 1) (pc' := 69) (lv' := [(3, .int (((6 : Int32) * ((gi M 129 21) - (1 : Int32))) + (gi q1 135 (((gi M 129 21) - (1 : Int32))).toNatClampNeg))), (2, .int (f_m_anyNumber q1)), (1, .int ((gi M 129 21) - (1 : Int32))), (0, .ref 129)]) (st' := [.ref 129]) (h' := hp q3) rfl ?_
      obtain ⟨q4, e_q4, h⟩ := Option.bind_eq_some_iff.mp h
      refine am_Y.call0 (M' := am_M228) (as := [.ref 129]) (rest := []) (d' := 1) rfl (by omega) rfl rfl (t_m_nextToken N q3 q4 e_q4) ?_
      refine am_Y.run (k := 3) (pc' := 77) (lv' := [(3, .int (((6 : Int32) * ((gi M 129 21) - (1 : Int32))) + (gi q1 135 (((gi M 129 21) - (1 : Int32))).toNatClampNeg))), (2, .int (f_m_anyNumber q1)), (1, .int ((gi M 129 21) - (1 : Int32))), (0, .ref 129)]) (st' := [.int (111 : Int32), .int (116 : Int32), .ref 129]) (h' := hp q4) rfl ?_
      refine am_Y.call0 (M' := am_M312) (as := [.int (116 : Int32), .int (111 : Int32)]) (rest := [.ref 129]) (d' := 0) rfl (by omega) rfl rfl (t_m_w2 (116 : Int32) (111 : Int32) q4 (29807 : Int64) (by exact (by decide : f_m_w2 (116 : Int32) (111 : Int32) (fun _ _ => 0, fun _ _ => 0) = (29807 : Int64)))) ?_
      refine am_Y.call0 (M' := am_M308) (as := [.ref 129, .long (29807 : Int64)]) (rest := []) (d' := 0) rfl (by omega) rfl rfl (t_m_isWord (29807 : Int64) q4 _ rfl) ?_
      refine am_Y.br (c := (f_m_isWord (29807 : Int64) q4) = (0 : Int32)) _ (t := 131) (u := 86) (lv' := [(3, .int (((6 : Int32) * ((gi M 129 21) - (1 : Int32))) + (gi q1 135 (((gi M 129 21) - (1 : Int32))).toNatClampNeg))), (2, .int (f_m_anyNumber q1)), (1, .int ((gi M 129 21) - (1 : Int32))), (0, .ref 129)]) (st' := []) (h' := hp q4) rfl (fun hc => ?_) (fun hc => ?_)
      · replace h := (if_pos hc).symm.trans h
        refine am_Y.weak (lv2 := [(0, .ref 129), (1, .int ((gi M 129 21) - (1 : Int32)))]) rfl rfl ⟨rfl, rfl, trivial⟩ ?_
        exact t_m_oneCase_131 N ((gi M 129 21) - (1 : Int32)) q4 _ _ h
      · replace h := (if_neg hc).symm.trans h
        refine am_Y.run (k := 1) (pc' := 87) (lv' := [(3, .int (((6 : Int32) * ((gi M 129 21) - (1 : Int32))) + (gi q1 135 (((gi M 129 21) - (1 : Int32))).toNatClampNeg))), (2, .int (f_m_anyNumber q1)), (1, .int ((gi M 129 21) - (1 : Int32))), (0, .ref 129)]) (st' := [.ref 129]) (h' := hp q4) rfl ?_
        obtain ⟨q5, e_q5, h⟩ := Option.bind_eq_some_iff.mp h
        refine am_Y.call0 (M' := am_M228) (as := [.ref 129]) (rest := []) (d' := 1) rfl (by omega) rfl rfl (t_m_nextToken N q4 q5 e_q5) ?_
        refine am_Y.run (k := 1) (pc' := 91) (lv' := [(3, .int (((6 : Int32) * ((gi M 129 21) - (1 : Int32))) + (gi q1 135 (((gi M 129 21) - (1 : Int32))).toNatClampNeg))), (2, .int (f_m_anyNumber q1)), (1, .int ((gi M 129 21) - (1 : Int32))), (0, .ref 129)]) (st' := [.ref 129]) (h' := hp q5) rfl ?_
        refine am_Y.call0 (M' := am_M355) (as := [.ref 129]) (rest := []) (d' := 0) rfl (by omega) rfl rfl (t_m_anyNumber q5 _ rfl) ?_
        refine am_Y.run (k := 2) (pc' := 96) (lv' := [(2, .int (f_m_anyNumber q5)), (3, .int (((6 : Int32) * ((gi M 129 21) - (1 : Int32))) + (gi q1 135 (((gi M 129 21) - (1 : Int32))).toNatClampNeg))), (1, .int ((gi M 129 21) - (1 : Int32))), (0, .ref 129)]) (st' := [.int (f_m_anyNumber q5)]) (h' := hp q5) rfl ?_
        refine am_Y.br (c := (f_m_anyNumber q5) = (0 : Int32)) _ (t := 101) (u := 99) (lv' := [(2, .int (f_m_anyNumber q5)), (3, .int (((6 : Int32) * ((gi M 129 21) - (1 : Int32))) + (gi q1 135 (((gi M 129 21) - (1 : Int32))).toNatClampNeg))), (1, .int ((gi M 129 21) - (1 : Int32))), (0, .ref 129)]) (st' := []) (h' := hp q5) rfl (fun hc => ?_) (fun hc => ?_)
        · replace h := (if_pos hc).symm.trans h
          refine am_Y.run (k := 5) (pc' := 110) (lv' := [(2, .int (f_m_anyNumber q5)), (3, .int (((6 : Int32) * ((gi M 129 21) - (1 : Int32))) + (gi q1 135 (((gi M 129 21) - (1 : Int32))).toNatClampNeg))), (1, .int ((gi M 129 21) - (1 : Int32))), (0, .ref 129)]) (st' := [.int (((6 : Int32) * ((gi M 129 21) - (1 : Int32))) + (gi q1 135 (((gi M 129 21) - (1 : Int32))).toNatClampNeg)), .ref 136, .int (gi q5 129 10)]) (h' := hp q5) rfl ?_
          obtain ⟨g, h⟩ := am_itg h
          refine am_Y.iald (a := 131) (n := 54) rfl rfl g ?_
          refine am_Y.br (c := (gi q5 136 ((((6 : Int32) * ((gi M 129 21) - (1 : Int32))) + (gi q1 135 (((gi M 129 21) - (1 : Int32))).toNatClampNeg))).toNatClampNeg) ≤ (gi q5 129 10)) _ (t := 117) (u := 114) (lv' := [(2, .int (f_m_anyNumber q5)), (3, .int (((6 : Int32) * ((gi M 129 21) - (1 : Int32))) + (gi q1 135 (((gi M 129 21) - (1 : Int32))).toNatClampNeg))), (1, .int ((gi M 129 21) - (1 : Int32))), (0, .ref 129)]) (st' := []) (h' := hp q5) rfl (fun hc => ?_) (fun hc => ?_)
          · replace h := (if_pos hc).symm.trans h
            refine am_Y.run (k := 5) (pc' := 126) (lv' := [(2, .int (f_m_anyNumber q5)), (3, .int (((6 : Int32) * ((gi M 129 21) - (1 : Int32))) + (gi q1 135 (((gi M 129 21) - (1 : Int32))).toNatClampNeg))), (1, .int ((gi M 129 21) - (1 : Int32))), (0, .ref 129)]) (st' := [.int (gi q5 129 10), .int (((6 : Int32) * ((gi M 129 21) - (1 : Int32))) + (gi q1 135 (((gi M 129 21) - (1 : Int32))).toNatClampNeg)), .ref 137]) (h' := hp q5) rfl ?_
            obtain ⟨g, h⟩ := am_itg h
            refine am_Y.iast (a := 132) (n := 54) rfl rfl g ?_
            refine am_Y.run (k := 0) (pc' := _) (lv' := [(2, .int (f_m_anyNumber q5)), (3, .int (((6 : Int32) * ((gi M 129 21) - (1 : Int32))) + (gi q1 135 (((gi M 129 21) - (1 : Int32))).toNatClampNeg))), (1, .int ((gi M 129 21) - (1 : Int32))), (0, .ref 129)]) (st' := []) (h' := hp (si q5 137 ((((6 : Int32) * ((gi M 129 21) - (1 : Int32))) + (gi q1 135 (((gi M 129 21) - (1 : Int32))).toNatClampNeg))).toNatClampNeg (gi q5 129 10))) rfl ?_
            obtain ⟨q6, e_q6, h⟩ := Option.bind_eq_some_iff.mp h
            rw [Option.some.inj e_q6]
            refine am_Y.run (k := 1) (pc' := 128) (lv' := [(2, .int (f_m_anyNumber q5)), (3, .int (((6 : Int32) * ((gi M 129 21) - (1 : Int32))) + (gi q1 135 (((gi M 129 21) - (1 : Int32))).toNatClampNeg))), (1, .int ((gi M 129 21) - (1 : Int32))), (0, .ref 129)]) (st' := [.ref 129]) (h' := hp q6) rfl ?_
            obtain ⟨q7, e_q7, h⟩ := Option.bind_eq_some_iff.mp h
            refine am_Y.call0 (M' := am_M228) (as := [.ref 129]) (rest := []) (d' := 1) rfl (by omega) rfl rfl (t_m_nextToken N q6 q7 e_q7) ?_
            refine am_Y.weak (lv2 := [(0, .ref 129), (1, .int ((gi M 129 21) - (1 : Int32)))]) rfl rfl ⟨rfl, rfl, trivial⟩ ?_
            exact t_m_oneCase_131 N ((gi M 129 21) - (1 : Int32)) q7 _ _ h
          · replace h := (if_neg hc).symm.trans h
            refine am_Y.run (k := 1) (pc' := 116) (lv' := [(2, .int (f_m_anyNumber q5)), (3, .int (((6 : Int32) * ((gi M 129 21) - (1 : Int32))) + (gi q1 135 (((gi M 129 21) - (1 : Int32))).toNatClampNeg))), (1, .int ((gi M 129 21) - (1 : Int32))), (0, .ref 129)]) (st' := [.int (7 : Int32)]) (h' := hp q5) rfl ?_
            obtain ⟨rfl, rfl⟩ := Prod.mk.inj (Option.some.inj h)
            exact am_Y.ret rfl
        · replace h := (if_neg hc).symm.trans h
          refine am_Y.run (k := 1) (pc' := 100) (lv' := [(2, .int (f_m_anyNumber q5)), (3, .int (((6 : Int32) * ((gi M 129 21) - (1 : Int32))) + (gi q1 135 (((gi M 129 21) - (1 : Int32))).toNatClampNeg))), (1, .int ((gi M 129 21) - (1 : Int32))), (0, .ref 129)]) (st' := [.int (f_m_anyNumber q5)]) (h' := hp q5) rfl ?_
          obtain ⟨rfl, rfl⟩ := Prod.mk.inj (Option.some.inj h)
          exact am_Y.ret rfl
    · replace h := (if_neg hc).symm.trans h
      refine am_Y.run (k := 1) (pc' := 35) (lv' := [(2, .int (f_m_anyNumber q1)), (1, .int ((gi M 129 21) - (1 : Int32))), (0, .ref 129)]) (st' := [.int (f_m_anyNumber q1)]) (h' := hp q1) rfl ?_
      obtain ⟨rfl, rfl⟩ := Prod.mk.inj (Option.some.inj h)
      exact am_Y.ret rfl
