/-! The constructors. -/
set_option maxRecDepth 100000 in
theorem t_i1 {S : Nat × (Nat → Int32)} : am_Y S 0 (am_mc am_M221) (am_ms am_M221) am_M221 0 [(0, .ref 7)] [] ih3 none ih9 := by
  refine am_Y.run (k := 4) (pc' := 7) (lv' := [(0, .ref 7)]) (st' := [.int (8 : Int32), .ref 7]) (h' := ih3) rfl ?_
  refine am_Y.make (cs := [.inl (0, 8, .inl (fun _ => 0))]) (rest := [.ref 7]) (ds := 8) (len := 2) rfl rfl rfl ?_
  refine am_Y.run (k := 0) (pc' := 9) (lv' := [(0, .ref 7)]) (st' := [.ref 8, .ref 7]) (h' := ih4) rfl ?_
  refine am_Y.run (k := 3) (pc' := 15) (lv' := [(0, .ref 7)]) (st' := [.int (8 : Int32), .ref 7]) (h' := ih5) rfl ?_
  refine am_Y.make (cs := [.inl (0, 8, .inl (fun _ => 0))]) (rest := [.ref 7]) (ds := 8) (len := 2) rfl rfl rfl ?_
  refine am_Y.run (k := 0) (pc' := 17) (lv' := [(0, .ref 7)]) (st' := [.ref 9, .ref 7]) (h' := ih6) rfl ?_
  refine am_Y.run (k := 3) (pc' := 23) (lv' := [(0, .ref 7)]) (st' := [.int (8 : Int32), .ref 7]) (h' := ih7) rfl ?_
  refine am_Y.make (cs := [.inl (0, 8, .inl (fun _ => 0))]) (rest := [.ref 7]) (ds := 8) (len := 2) rfl rfl rfl ?_
  refine am_Y.run (k := 0) (pc' := 25) (lv' := [(0, .ref 7)]) (st' := [.ref 10, .ref 7]) (h' := ih8) rfl ?_
  refine am_Y.run (k := 4) (pc' := 33) (lv' := [(0, .ref 7)]) (st' := []) (h' := ih9) rfl ?_
  exact am_Y.ret rfl
set_option maxRecDepth 100000 in
theorem t_i2 {S : Nat × (Nat → Int32)} : am_Y S 0 (am_mc am_M222) (am_ms am_M222) am_M222 0 [(0, .ref 11)] [] ih11 none ih16 := by
  refine am_Y.run (k := 4) (pc' := 7) (lv' := [(0, .ref 11)]) (st' := [.int (66 : Int32), .ref 11]) (h' := ih11) rfl ?_
  refine am_Y.make (cs := [.inl (0, 66, .inl (fun _ => 0))]) (rest := [.ref 11]) (ds := 66) (len := 2) rfl rfl rfl ?_
  refine am_Y.run (k := 0) (pc' := 9) (lv' := [(0, .ref 11)]) (st' := [.ref 12, .ref 11]) (h' := ih12) rfl ?_
  refine am_Y.run (k := 3) (pc' := 15) (lv' := [(0, .ref 11)]) (st' := [.int (100 : Int32), .ref 11]) (h' := ih13) rfl ?_
  refine am_Y.make (cs := [.inl (0, 100, .inl (fun _ => 0))]) (rest := [.ref 11]) (ds := 100) (len := 2) rfl rfl rfl ?_
  refine am_Y.run (k := 0) (pc' := 17) (lv' := [(0, .ref 11)]) (st' := [.ref 13, .ref 11]) (h' := ih14) rfl ?_
  refine am_Y.run (k := 5) (pc' := 27) (lv' := [(0, .ref 11)]) (st' := [.int (61 : Int32), .int (2 : Int32), .ref 12]) (h' := ih15) rfl ?_
  refine am_Y.iast (a := 7) (n := 66) rfl rfl (by decide) ?_
  refine am_Y.run (k := 0) (pc' := 28) (lv' := [(0, .ref 11)]) (st' := []) (h' := ih16) rfl ?_
  exact am_Y.ret rfl
set_option maxRecDepth 100000 in
theorem t_i3 {S : Nat × (Nat → Int32)} : am_Y S 0 (am_mc am_M223) (am_ms am_M223) am_M223 0 [(0, .ref 14)] [] ih18 none ih20 := by
  refine am_Y.run (k := 5) (pc' := 9) (lv' := [(0, .ref 14)]) (st' := [.int (66 : Int32), .int (30 : Int32), .ref 14]) (h' := ih18) rfl ?_
  refine am_Y.make (cs := (.inl (4, 30, .inr (.inr (.inr (.inr (fun i => if i < 30 then some (16 + i) else none)))))) :: List.replicate 30 (.inl (0, 66, .inl (fun _ => 0)))) (rest := [.ref 14]) (ds := 2010) (len := 4) rfl rfl rfl ?_
  refine am_Y.run (k := 0) (pc' := 13) (lv' := [(0, .ref 14)]) (st' := [.ref 15, .ref 14]) (h' := ih19) rfl ?_
  refine am_Y.run (k := 7) (pc' := 26) (lv' := [(0, .ref 14)]) (st' := []) (h' := ih20) rfl ?_
  exact am_Y.ret rfl
set_option maxRecDepth 100000 in
theorem t_i4 {S : Nat × (Nat → Int32)} : am_Y S 0 0 0 am_M257 0 [(0, .ref 48), (1, .int (10 : Int32))] [] ih30 none ih36 := by
  refine am_Y.run (k := 7) (pc' := 7) (lv' := [(3, .int (6 : Int32)), (2, .int (0 : Int32)), (0, .ref 48), (1, .int (10 : Int32))]) (st' := [.int (6 : Int32), .int (0 : Int32)]) (h' := ih30) rfl ?_
  refine am_Y.br (c := (6 : Int32) ≤ (0 : Int32)) _ (t := 20) (u := 10) (lv' := [(3, .int (6 : Int32)), (2, .int (0 : Int32)), (0, .ref 48), (1, .int (10 : Int32))]) (st' := []) (h' := ih30) rfl (fun hc => ?_) (fun hc => ?_)
  · exact absurd hc (by decide)
  refine am_Y.run (k := 3) (pc' := 13) (lv' := [(3, .int (6 : Int32)), (2, .int (0 : Int32)), (0, .ref 48), (1, .int (10 : Int32))]) (st' := [.int (10 : Int32), .int (0 : Int32), .ref 48]) (h' := ih30) rfl ?_
  refine am_Y.iast (a := 43) (n := 6) rfl rfl (by decide) ?_
  refine am_Y.run (k := 0) (pc' := 14) (lv' := [(3, .int (6 : Int32)), (2, .int (0 : Int32)), (0, .ref 48), (1, .int (10 : Int32))]) (st' := []) (h' := ih31) rfl ?_
  refine am_Y.run (k := 4) (pc' := 7) (lv' := [(2, .int ((0 : Int32) + (1 : Int32))), (3, .int (6 : Int32)), (0, .ref 48), (1, .int (10 : Int32))]) (st' := [.int (6 : Int32), .int ((0 : Int32) + (1 : Int32))]) (h' := ih31) rfl ?_
  refine am_Y.br (c := (6 : Int32) ≤ ((0 : Int32) + (1 : Int32))) _ (t := 20) (u := 10) (lv' := [(2, .int (1 : Int32)), (3, .int (6 : Int32)), (0, .ref 48), (1, .int (10 : Int32))]) (st' := []) (h' := ih31) rfl (fun hc => ?_) (fun hc => ?_)
  · exact absurd hc (by decide)
  refine am_Y.run (k := 3) (pc' := 13) (lv' := [(2, .int (1 : Int32)), (3, .int (6 : Int32)), (0, .ref 48), (1, .int (10 : Int32))]) (st' := [.int (10 : Int32), .int (1 : Int32), .ref 48]) (h' := ih31) rfl ?_
  refine am_Y.iast (a := 43) (n := 6) rfl rfl (by decide) ?_
  refine am_Y.run (k := 0) (pc' := 14) (lv' := [(2, .int (1 : Int32)), (3, .int (6 : Int32)), (0, .ref 48), (1, .int (10 : Int32))]) (st' := []) (h' := ih32) rfl ?_
  refine am_Y.run (k := 4) (pc' := 7) (lv' := [(2, .int ((1 : Int32) + (1 : Int32))), (3, .int (6 : Int32)), (0, .ref 48), (1, .int (10 : Int32))]) (st' := [.int (6 : Int32), .int ((1 : Int32) + (1 : Int32))]) (h' := ih32) rfl ?_
  refine am_Y.br (c := (6 : Int32) ≤ ((1 : Int32) + (1 : Int32))) _ (t := 20) (u := 10) (lv' := [(2, .int (2 : Int32)), (3, .int (6 : Int32)), (0, .ref 48), (1, .int (10 : Int32))]) (st' := []) (h' := ih32) rfl (fun hc => ?_) (fun hc => ?_)
  · exact absurd hc (by decide)
  refine am_Y.run (k := 3) (pc' := 13) (lv' := [(2, .int (2 : Int32)), (3, .int (6 : Int32)), (0, .ref 48), (1, .int (10 : Int32))]) (st' := [.int (10 : Int32), .int (2 : Int32), .ref 48]) (h' := ih32) rfl ?_
  refine am_Y.iast (a := 43) (n := 6) rfl rfl (by decide) ?_
  refine am_Y.run (k := 0) (pc' := 14) (lv' := [(2, .int (2 : Int32)), (3, .int (6 : Int32)), (0, .ref 48), (1, .int (10 : Int32))]) (st' := []) (h' := ih33) rfl ?_
  refine am_Y.run (k := 4) (pc' := 7) (lv' := [(2, .int ((2 : Int32) + (1 : Int32))), (3, .int (6 : Int32)), (0, .ref 48), (1, .int (10 : Int32))]) (st' := [.int (6 : Int32), .int ((2 : Int32) + (1 : Int32))]) (h' := ih33) rfl ?_
  refine am_Y.br (c := (6 : Int32) ≤ ((2 : Int32) + (1 : Int32))) _ (t := 20) (u := 10) (lv' := [(2, .int (3 : Int32)), (3, .int (6 : Int32)), (0, .ref 48), (1, .int (10 : Int32))]) (st' := []) (h' := ih33) rfl (fun hc => ?_) (fun hc => ?_)
  · exact absurd hc (by decide)
  refine am_Y.run (k := 3) (pc' := 13) (lv' := [(2, .int (3 : Int32)), (3, .int (6 : Int32)), (0, .ref 48), (1, .int (10 : Int32))]) (st' := [.int (10 : Int32), .int (3 : Int32), .ref 48]) (h' := ih33) rfl ?_
  refine am_Y.iast (a := 43) (n := 6) rfl rfl (by decide) ?_
  refine am_Y.run (k := 0) (pc' := 14) (lv' := [(2, .int (3 : Int32)), (3, .int (6 : Int32)), (0, .ref 48), (1, .int (10 : Int32))]) (st' := []) (h' := ih34) rfl ?_
  refine am_Y.run (k := 4) (pc' := 7) (lv' := [(2, .int ((3 : Int32) + (1 : Int32))), (3, .int (6 : Int32)), (0, .ref 48), (1, .int (10 : Int32))]) (st' := [.int (6 : Int32), .int ((3 : Int32) + (1 : Int32))]) (h' := ih34) rfl ?_
  refine am_Y.br (c := (6 : Int32) ≤ ((3 : Int32) + (1 : Int32))) _ (t := 20) (u := 10) (lv' := [(2, .int (4 : Int32)), (3, .int (6 : Int32)), (0, .ref 48), (1, .int (10 : Int32))]) (st' := []) (h' := ih34) rfl (fun hc => ?_) (fun hc => ?_)
  · exact absurd hc (by decide)
  refine am_Y.run (k := 3) (pc' := 13) (lv' := [(2, .int (4 : Int32)), (3, .int (6 : Int32)), (0, .ref 48), (1, .int (10 : Int32))]) (st' := [.int (10 : Int32), .int (4 : Int32), .ref 48]) (h' := ih34) rfl ?_
  refine am_Y.iast (a := 43) (n := 6) rfl rfl (by decide) ?_
  refine am_Y.run (k := 0) (pc' := 14) (lv' := [(2, .int (4 : Int32)), (3, .int (6 : Int32)), (0, .ref 48), (1, .int (10 : Int32))]) (st' := []) (h' := ih35) rfl ?_
  refine am_Y.run (k := 4) (pc' := 7) (lv' := [(2, .int ((4 : Int32) + (1 : Int32))), (3, .int (6 : Int32)), (0, .ref 48), (1, .int (10 : Int32))]) (st' := [.int (6 : Int32), .int ((4 : Int32) + (1 : Int32))]) (h' := ih35) rfl ?_
  refine am_Y.br (c := (6 : Int32) ≤ ((4 : Int32) + (1 : Int32))) _ (t := 20) (u := 10) (lv' := [(2, .int (5 : Int32)), (3, .int (6 : Int32)), (0, .ref 48), (1, .int (10 : Int32))]) (st' := []) (h' := ih35) rfl (fun hc => ?_) (fun hc => ?_)
  · exact absurd hc (by decide)
  refine am_Y.run (k := 3) (pc' := 13) (lv' := [(2, .int (5 : Int32)), (3, .int (6 : Int32)), (0, .ref 48), (1, .int (10 : Int32))]) (st' := [.int (10 : Int32), .int (5 : Int32), .ref 48]) (h' := ih35) rfl ?_
  refine am_Y.iast (a := 43) (n := 6) rfl rfl (by decide) ?_
  refine am_Y.run (k := 0) (pc' := 14) (lv' := [(2, .int (5 : Int32)), (3, .int (6 : Int32)), (0, .ref 48), (1, .int (10 : Int32))]) (st' := []) (h' := ih36) rfl ?_
  refine am_Y.run (k := 4) (pc' := 7) (lv' := [(2, .int ((5 : Int32) + (1 : Int32))), (3, .int (6 : Int32)), (0, .ref 48), (1, .int (10 : Int32))]) (st' := [.int (6 : Int32), .int ((5 : Int32) + (1 : Int32))]) (h' := ih36) rfl ?_
  refine am_Y.br (c := (6 : Int32) ≤ ((5 : Int32) + (1 : Int32))) _ (t := 20) (u := 10) (lv' := [(2, .int (6 : Int32)), (3, .int (6 : Int32)), (0, .ref 48), (1, .int (10 : Int32))]) (st' := []) (h' := ih36) rfl (fun hc => ?_) (fun hc => ?_)
  rotate_left
  · exact absurd (by decide) hc
  exact am_Y.ret rfl
set_option maxRecDepth 100000 in
theorem t_i5 {S : Nat × (Nat → Int32)} : am_Y S 0 0 0 am_M257 0 [(0, .ref 49), (1, .int (10 : Int32))] [] ih36 none ih42 := by
  refine am_Y.run (k := 7) (pc' := 7) (lv' := [(3, .int (6 : Int32)), (2, .int (0 : Int32)), (0, .ref 49), (1, .int (10 : Int32))]) (st' := [.int (6 : Int32), .int (0 : Int32)]) (h' := ih36) rfl ?_
  refine am_Y.br (c := (6 : Int32) ≤ (0 : Int32)) _ (t := 20) (u := 10) (lv' := [(3, .int (6 : Int32)), (2, .int (0 : Int32)), (0, .ref 49), (1, .int (10 : Int32))]) (st' := []) (h' := ih36) rfl (fun hc => ?_) (fun hc => ?_)
  · exact absurd hc (by decide)
  refine am_Y.run (k := 3) (pc' := 13) (lv' := [(3, .int (6 : Int32)), (2, .int (0 : Int32)), (0, .ref 49), (1, .int (10 : Int32))]) (st' := [.int (10 : Int32), .int (0 : Int32), .ref 49]) (h' := ih36) rfl ?_
  refine am_Y.iast (a := 44) (n := 6) rfl rfl (by decide) ?_
  refine am_Y.run (k := 0) (pc' := 14) (lv' := [(3, .int (6 : Int32)), (2, .int (0 : Int32)), (0, .ref 49), (1, .int (10 : Int32))]) (st' := []) (h' := ih37) rfl ?_
  refine am_Y.run (k := 4) (pc' := 7) (lv' := [(2, .int ((0 : Int32) + (1 : Int32))), (3, .int (6 : Int32)), (0, .ref 49), (1, .int (10 : Int32))]) (st' := [.int (6 : Int32), .int ((0 : Int32) + (1 : Int32))]) (h' := ih37) rfl ?_
  refine am_Y.br (c := (6 : Int32) ≤ ((0 : Int32) + (1 : Int32))) _ (t := 20) (u := 10) (lv' := [(2, .int (1 : Int32)), (3, .int (6 : Int32)), (0, .ref 49), (1, .int (10 : Int32))]) (st' := []) (h' := ih37) rfl (fun hc => ?_) (fun hc => ?_)
  · exact absurd hc (by decide)
  refine am_Y.run (k := 3) (pc' := 13) (lv' := [(2, .int (1 : Int32)), (3, .int (6 : Int32)), (0, .ref 49), (1, .int (10 : Int32))]) (st' := [.int (10 : Int32), .int (1 : Int32), .ref 49]) (h' := ih37) rfl ?_
  refine am_Y.iast (a := 44) (n := 6) rfl rfl (by decide) ?_
  refine am_Y.run (k := 0) (pc' := 14) (lv' := [(2, .int (1 : Int32)), (3, .int (6 : Int32)), (0, .ref 49), (1, .int (10 : Int32))]) (st' := []) (h' := ih38) rfl ?_
  refine am_Y.run (k := 4) (pc' := 7) (lv' := [(2, .int ((1 : Int32) + (1 : Int32))), (3, .int (6 : Int32)), (0, .ref 49), (1, .int (10 : Int32))]) (st' := [.int (6 : Int32), .int ((1 : Int32) + (1 : Int32))]) (h' := ih38) rfl ?_
  refine am_Y.br (c := (6 : Int32) ≤ ((1 : Int32) + (1 : Int32))) _ (t := 20) (u := 10) (lv' := [(2, .int (2 : Int32)), (3, .int (6 : Int32)), (0, .ref 49), (1, .int (10 : Int32))]) (st' := []) (h' := ih38) rfl (fun hc => ?_) (fun hc => ?_)
  · exact absurd hc (by decide)
  refine am_Y.run (k := 3) (pc' := 13) (lv' := [(2, .int (2 : Int32)), (3, .int (6 : Int32)), (0, .ref 49), (1, .int (10 : Int32))]) (st' := [.int (10 : Int32), .int (2 : Int32), .ref 49]) (h' := ih38) rfl ?_
  refine am_Y.iast (a := 44) (n := 6) rfl rfl (by decide) ?_
  refine am_Y.run (k := 0) (pc' := 14) (lv' := [(2, .int (2 : Int32)), (3, .int (6 : Int32)), (0, .ref 49), (1, .int (10 : Int32))]) (st' := []) (h' := ih39) rfl ?_
  refine am_Y.run (k := 4) (pc' := 7) (lv' := [(2, .int ((2 : Int32) + (1 : Int32))), (3, .int (6 : Int32)), (0, .ref 49), (1, .int (10 : Int32))]) (st' := [.int (6 : Int32), .int ((2 : Int32) + (1 : Int32))]) (h' := ih39) rfl ?_
  refine am_Y.br (c := (6 : Int32) ≤ ((2 : Int32) + (1 : Int32))) _ (t := 20) (u := 10) (lv' := [(2, .int (3 : Int32)), (3, .int (6 : Int32)), (0, .ref 49), (1, .int (10 : Int32))]) (st' := []) (h' := ih39) rfl (fun hc => ?_) (fun hc => ?_)
  · exact absurd hc (by decide)
  refine am_Y.run (k := 3) (pc' := 13) (lv' := [(2, .int (3 : Int32)), (3, .int (6 : Int32)), (0, .ref 49), (1, .int (10 : Int32))]) (st' := [.int (10 : Int32), .int (3 : Int32), .ref 49]) (h' := ih39) rfl ?_
  refine am_Y.iast (a := 44) (n := 6) rfl rfl (by decide) ?_
  refine am_Y.run (k := 0) (pc' := 14) (lv' := [(2, .int (3 : Int32)), (3, .int (6 : Int32)), (0, .ref 49), (1, .int (10 : Int32))]) (st' := []) (h' := ih40) rfl ?_
  refine am_Y.run (k := 4) (pc' := 7) (lv' := [(2, .int ((3 : Int32) + (1 : Int32))), (3, .int (6 : Int32)), (0, .ref 49), (1, .int (10 : Int32))]) (st' := [.int (6 : Int32), .int ((3 : Int32) + (1 : Int32))]) (h' := ih40) rfl ?_
  refine am_Y.br (c := (6 : Int32) ≤ ((3 : Int32) + (1 : Int32))) _ (t := 20) (u := 10) (lv' := [(2, .int (4 : Int32)), (3, .int (6 : Int32)), (0, .ref 49), (1, .int (10 : Int32))]) (st' := []) (h' := ih40) rfl (fun hc => ?_) (fun hc => ?_)
  · exact absurd hc (by decide)
  refine am_Y.run (k := 3) (pc' := 13) (lv' := [(2, .int (4 : Int32)), (3, .int (6 : Int32)), (0, .ref 49), (1, .int (10 : Int32))]) (st' := [.int (10 : Int32), .int (4 : Int32), .ref 49]) (h' := ih40) rfl ?_
  refine am_Y.iast (a := 44) (n := 6) rfl rfl (by decide) ?_
  refine am_Y.run (k := 0) (pc' := 14) (lv' := [(2, .int (4 : Int32)), (3, .int (6 : Int32)), (0, .ref 49), (1, .int (10 : Int32))]) (st' := []) (h' := ih41) rfl ?_
  refine am_Y.run (k := 4) (pc' := 7) (lv' := [(2, .int ((4 : Int32) + (1 : Int32))), (3, .int (6 : Int32)), (0, .ref 49), (1, .int (10 : Int32))]) (st' := [.int (6 : Int32), .int ((4 : Int32) + (1 : Int32))]) (h' := ih41) rfl ?_
  refine am_Y.br (c := (6 : Int32) ≤ ((4 : Int32) + (1 : Int32))) _ (t := 20) (u := 10) (lv' := [(2, .int (5 : Int32)), (3, .int (6 : Int32)), (0, .ref 49), (1, .int (10 : Int32))]) (st' := []) (h' := ih41) rfl (fun hc => ?_) (fun hc => ?_)
  · exact absurd hc (by decide)
  refine am_Y.run (k := 3) (pc' := 13) (lv' := [(2, .int (5 : Int32)), (3, .int (6 : Int32)), (0, .ref 49), (1, .int (10 : Int32))]) (st' := [.int (10 : Int32), .int (5 : Int32), .ref 49]) (h' := ih41) rfl ?_
  refine am_Y.iast (a := 44) (n := 6) rfl rfl (by decide) ?_
  refine am_Y.run (k := 0) (pc' := 14) (lv' := [(2, .int (5 : Int32)), (3, .int (6 : Int32)), (0, .ref 49), (1, .int (10 : Int32))]) (st' := []) (h' := ih42) rfl ?_
  refine am_Y.run (k := 4) (pc' := 7) (lv' := [(2, .int ((5 : Int32) + (1 : Int32))), (3, .int (6 : Int32)), (0, .ref 49), (1, .int (10 : Int32))]) (st' := [.int (6 : Int32), .int ((5 : Int32) + (1 : Int32))]) (h' := ih42) rfl ?_
  refine am_Y.br (c := (6 : Int32) ≤ ((5 : Int32) + (1 : Int32))) _ (t := 20) (u := 10) (lv' := [(2, .int (6 : Int32)), (3, .int (6 : Int32)), (0, .ref 49), (1, .int (10 : Int32))]) (st' := []) (h' := ih42) rfl (fun hc => ?_) (fun hc => ?_)
  rotate_left
  · exact absurd (by decide) hc
  exact am_Y.ret rfl
set_option maxRecDepth 100000 in
theorem t_i6 {S : Nat × (Nat → Int32)} : am_Y S 1 (am_mc am_M224) (am_ms am_M224) am_M224 0 [(0, .ref 46)] [] ih22 none ih42 := by
  refine am_Y.run (k := 5) (pc' := 8) (lv' := [(0, .ref 46)]) (st' := [.int (6 : Int32), .int (2 : Int32), .ref 46]) (h' := ih22) rfl ?_
  refine am_Y.make (cs := (.inl (4, 2, .inr (.inr (.inr (.inr (fun i => if i < 2 then some (48 + i) else none)))))) :: List.replicate 2 (.inl (0, 6, .inl (fun _ => 0)))) (rest := [.ref 46]) (ds := 14) (len := 4) rfl rfl rfl ?_
  refine am_Y.run (k := 0) (pc' := 12) (lv' := [(0, .ref 46)]) (st' := [.ref 47, .ref 46]) (h' := ih23) rfl ?_
  refine am_Y.run (k := 3) (pc' := 18) (lv' := [(0, .ref 46)]) (st' := [.int (6 : Int32), .ref 46]) (h' := ih24) rfl ?_
  refine am_Y.make (cs := [.inl (0, 6, .inl (fun _ => 0))]) (rest := [.ref 46]) (ds := 6) (len := 2) rfl rfl rfl ?_
  refine am_Y.run (k := 0) (pc' := 20) (lv' := [(0, .ref 46)]) (st' := [.ref 50, .ref 46]) (h' := ih25) rfl ?_
  refine am_Y.run (k := 6) (pc' := 31) (lv' := [(0, .ref 46)]) (st' := [.int (16 : Int32), .ref 46]) (h' := ih26) rfl ?_
  refine am_Y.make (cs := [.inl (1, 16, .inr (.inl (fun _ => 0)))]) (rest := [.ref 46]) (ds := 16) (len := 2) rfl rfl rfl ?_
  refine am_Y.run (k := 0) (pc' := 33) (lv' := [(0, .ref 46)]) (st' := [.ref 51, .ref 46]) (h' := ih27) rfl ?_
  refine am_Y.run (k := 3) (pc' := 39) (lv' := [(0, .ref 46)]) (st' := [.int (16 : Int32), .ref 46]) (h' := ih28) rfl ?_
  refine am_Y.make (cs := [.inl (1, 16, .inr (.inl (fun _ => 0)))]) (rest := [.ref 46]) (ds := 16) (len := 2) rfl rfl rfl ?_
  refine am_Y.run (k := 0) (pc' := 41) (lv' := [(0, .ref 46)]) (st' := [.ref 52, .ref 46]) (h' := ih29) rfl ?_
  refine am_Y.run (k := 15) (pc' := 67) (lv' := [(0, .ref 46)]) (st' := [.int (10 : Int32), .ref 48]) (h' := ih30) rfl ?_
  refine am_Y.call0 (M' := am_M257) (as := [.ref 48, .int (10 : Int32)]) (rest := []) (d' := 0) (r1 := none) (h1 := ih36) rfl (by omega) rfl rfl (t_i4) ?_
  refine am_Y.run (k := 0) (pc' := 70) (lv' := [(0, .ref 46)]) (st' := []) (h' := ih36) rfl ?_
  refine am_Y.run (k := 5) (pc' := 78) (lv' := [(0, .ref 46)]) (st' := [.int (10 : Int32), .ref 49]) (h' := ih36) rfl ?_
  refine am_Y.call0 (M' := am_M257) (as := [.ref 49, .int (10 : Int32)]) (rest := []) (d' := 0) (r1 := none) (h1 := ih42) rfl (by omega) rfl rfl (t_i5) ?_
  refine am_Y.run (k := 0) (pc' := 81) (lv' := [(0, .ref 46)]) (st' := []) (h' := ih42) rfl ?_
  exact am_Y.ret rfl
set_option maxRecDepth 100000 in
theorem t_i7 {S : Nat × (Nat → Int32)} : am_Y S 2 (am_mc am_M96) (am_ms am_M96) am_M96 0 [(0, .ref 6)] [] ih2 none ih43 := by
  refine am_Y.run (k := 3) (pc' := 5) (lv' := [(0, .ref 6)]) (st' := [.ref 6]) (h' := ih2) rfl ?_
  refine am_Y.make (cs := [.inr (2, [.null, .null, .null, .int (0 : Int32)])]) (rest := [.ref 6]) (ds := 4) (len := 3) rfl rfl rfl ?_
  refine am_Y.run (k := 0) (pc' := 8) (lv' := [(0, .ref 6)]) (st' := [.ref 7, .ref 6]) (h' := ih3) rfl ?_
  refine am_Y.run (k := 1) (pc' := 9) (lv' := [(0, .ref 6)]) (st' := [.ref 7, .ref 7, .ref 6]) (h' := ih3) rfl ?_
  refine am_Y.call (M' := am_M221) (as := [.ref 7]) (rest := [.ref 7, .ref 6]) (d' := 0) (r1 := none) (h1 := ih9) rfl (by omega) rfl rfl (t_i1) ?_
  refine am_Y.run (k := 0) (pc' := 12) (lv' := [(0, .ref 6)]) (st' := [.ref 7, .ref 6]) (h' := ih9) rfl ?_
  refine am_Y.run (k := 2) (pc' := 16) (lv' := [(0, .ref 6)]) (st' := [.ref 6]) (h' := ih10) rfl ?_
  refine am_Y.make (cs := [.inr (1, [.null, .null])]) (rest := [.ref 6]) (ds := 2) (len := 3) rfl rfl rfl ?_
  refine am_Y.run (k := 0) (pc' := 19) (lv' := [(0, .ref 6)]) (st' := [.ref 11, .ref 6]) (h' := ih11) rfl ?_
  refine am_Y.run (k := 1) (pc' := 20) (lv' := [(0, .ref 6)]) (st' := [.ref 11, .ref 11, .ref 6]) (h' := ih11) rfl ?_
  refine am_Y.call (M' := am_M222) (as := [.ref 11]) (rest := [.ref 11, .ref 6]) (d' := 0) (r1 := none) (h1 := ih16) rfl (by omega) rfl rfl (t_i2) ?_
  refine am_Y.run (k := 0) (pc' := 23) (lv' := [(0, .ref 6)]) (st' := [.ref 11, .ref 6]) (h' := ih16) rfl ?_
  refine am_Y.run (k := 2) (pc' := 27) (lv' := [(0, .ref 6)]) (st' := [.ref 6]) (h' := ih17) rfl ?_
  refine am_Y.make (cs := [.inr (6, [.null, .int (0 : Int32), .int (0 : Int32)])]) (rest := [.ref 6]) (ds := 3) (len := 3) rfl rfl rfl ?_
  refine am_Y.run (k := 0) (pc' := 30) (lv' := [(0, .ref 6)]) (st' := [.ref 14, .ref 6]) (h' := ih18) rfl ?_
  refine am_Y.run (k := 1) (pc' := 31) (lv' := [(0, .ref 6)]) (st' := [.ref 14, .ref 14, .ref 6]) (h' := ih18) rfl ?_
  refine am_Y.call (M' := am_M223) (as := [.ref 14]) (rest := [.ref 14, .ref 6]) (d' := 0) (r1 := none) (h1 := ih20) rfl (by omega) rfl rfl (t_i3) ?_
  refine am_Y.run (k := 0) (pc' := 34) (lv' := [(0, .ref 6)]) (st' := [.ref 14, .ref 6]) (h' := ih20) rfl ?_
  refine am_Y.run (k := 2) (pc' := 38) (lv' := [(0, .ref 6)]) (st' := [.ref 6]) (h' := ih21) rfl ?_
  refine am_Y.make (cs := [.inr (0, [.null, .null, .int (0 : Int32), .null, .null, .long (0 : Int64), .long (0 : Int64), .int (0 : Int32)])]) (rest := [.ref 6]) (ds := 8) (len := 3) rfl rfl rfl ?_
  refine am_Y.run (k := 0) (pc' := 41) (lv' := [(0, .ref 6)]) (st' := [.ref 46, .ref 6]) (h' := ih22) rfl ?_
  refine am_Y.run (k := 1) (pc' := 42) (lv' := [(0, .ref 6)]) (st' := [.ref 46, .ref 46, .ref 6]) (h' := ih22) rfl ?_
  refine am_Y.call (M' := am_M224) (as := [.ref 46]) (rest := [.ref 46, .ref 6]) (d' := 1) (r1 := none) (h1 := ih42) rfl (by omega) rfl rfl (t_i6) ?_
  refine am_Y.run (k := 0) (pc' := 45) (lv' := [(0, .ref 6)]) (st' := [.ref 46, .ref 6]) (h' := ih42) rfl ?_
  refine am_Y.run (k := 7) (pc' := 58) (lv' := [(0, .ref 6)]) (st' := []) (h' := ih43) rfl ?_
  exact am_Y.ret rfl
set_option maxRecDepth 100000 in
theorem t_i8 {S : Nat × (Nat → Int32)} : am_Y S 0 (am_mc am_M221) (am_ms am_M221) am_M221 0 [(0, .ref 54)] [] ih46 none ih52 := by
  refine am_Y.run (k := 4) (pc' := 7) (lv' := [(0, .ref 54)]) (st' := [.int (8 : Int32), .ref 54]) (h' := ih46) rfl ?_
  refine am_Y.make (cs := [.inl (0, 8, .inl (fun _ => 0))]) (rest := [.ref 54]) (ds := 8) (len := 2) rfl rfl rfl ?_
  refine am_Y.run (k := 0) (pc' := 9) (lv' := [(0, .ref 54)]) (st' := [.ref 55, .ref 54]) (h' := ih47) rfl ?_
  refine am_Y.run (k := 3) (pc' := 15) (lv' := [(0, .ref 54)]) (st' := [.int (8 : Int32), .ref 54]) (h' := ih48) rfl ?_
  refine am_Y.make (cs := [.inl (0, 8, .inl (fun _ => 0))]) (rest := [.ref 54]) (ds := 8) (len := 2) rfl rfl rfl ?_
  refine am_Y.run (k := 0) (pc' := 17) (lv' := [(0, .ref 54)]) (st' := [.ref 56, .ref 54]) (h' := ih49) rfl ?_
  refine am_Y.run (k := 3) (pc' := 23) (lv' := [(0, .ref 54)]) (st' := [.int (8 : Int32), .ref 54]) (h' := ih50) rfl ?_
  refine am_Y.make (cs := [.inl (0, 8, .inl (fun _ => 0))]) (rest := [.ref 54]) (ds := 8) (len := 2) rfl rfl rfl ?_
  refine am_Y.run (k := 0) (pc' := 25) (lv' := [(0, .ref 54)]) (st' := [.ref 57, .ref 54]) (h' := ih51) rfl ?_
  refine am_Y.run (k := 4) (pc' := 33) (lv' := [(0, .ref 54)]) (st' := []) (h' := ih52) rfl ?_
  exact am_Y.ret rfl
set_option maxRecDepth 100000 in
theorem t_i9 {S : Nat × (Nat → Int32)} : am_Y S 0 (am_mc am_M222) (am_ms am_M222) am_M222 0 [(0, .ref 58)] [] ih54 none ih59 := by
  refine am_Y.run (k := 4) (pc' := 7) (lv' := [(0, .ref 58)]) (st' := [.int (66 : Int32), .ref 58]) (h' := ih54) rfl ?_
  refine am_Y.make (cs := [.inl (0, 66, .inl (fun _ => 0))]) (rest := [.ref 58]) (ds := 66) (len := 2) rfl rfl rfl ?_
  refine am_Y.run (k := 0) (pc' := 9) (lv' := [(0, .ref 58)]) (st' := [.ref 59, .ref 58]) (h' := ih55) rfl ?_
  refine am_Y.run (k := 3) (pc' := 15) (lv' := [(0, .ref 58)]) (st' := [.int (100 : Int32), .ref 58]) (h' := ih56) rfl ?_
  refine am_Y.make (cs := [.inl (0, 100, .inl (fun _ => 0))]) (rest := [.ref 58]) (ds := 100) (len := 2) rfl rfl rfl ?_
  refine am_Y.run (k := 0) (pc' := 17) (lv' := [(0, .ref 58)]) (st' := [.ref 60, .ref 58]) (h' := ih57) rfl ?_
  refine am_Y.run (k := 5) (pc' := 27) (lv' := [(0, .ref 58)]) (st' := [.int (61 : Int32), .int (2 : Int32), .ref 59]) (h' := ih58) rfl ?_
  refine am_Y.iast (a := 54) (n := 66) rfl rfl (by decide) ?_
  refine am_Y.run (k := 0) (pc' := 28) (lv' := [(0, .ref 58)]) (st' := []) (h' := ih59) rfl ?_
  exact am_Y.ret rfl
set_option maxRecDepth 100000 in
theorem t_i10 {S : Nat × (Nat → Int32)} : am_Y S 0 (am_mc am_M223) (am_ms am_M223) am_M223 0 [(0, .ref 61)] [] ih61 none ih63 := by
  refine am_Y.run (k := 5) (pc' := 9) (lv' := [(0, .ref 61)]) (st' := [.int (66 : Int32), .int (30 : Int32), .ref 61]) (h' := ih61) rfl ?_
  refine am_Y.make (cs := (.inl (4, 30, .inr (.inr (.inr (.inr (fun i => if i < 30 then some (63 + i) else none)))))) :: List.replicate 30 (.inl (0, 66, .inl (fun _ => 0)))) (rest := [.ref 61]) (ds := 2010) (len := 4) rfl rfl rfl ?_
  refine am_Y.run (k := 0) (pc' := 13) (lv' := [(0, .ref 61)]) (st' := [.ref 62, .ref 61]) (h' := ih62) rfl ?_
  refine am_Y.run (k := 7) (pc' := 26) (lv' := [(0, .ref 61)]) (st' := []) (h' := ih63) rfl ?_
  exact am_Y.ret rfl
set_option maxRecDepth 100000 in
theorem t_i11 {S : Nat × (Nat → Int32)} : am_Y S 0 0 0 am_M257 0 [(0, .ref 95), (1, .int (10 : Int32))] [] ih73 none ih79 := by
  refine am_Y.run (k := 7) (pc' := 7) (lv' := [(3, .int (6 : Int32)), (2, .int (0 : Int32)), (0, .ref 95), (1, .int (10 : Int32))]) (st' := [.int (6 : Int32), .int (0 : Int32)]) (h' := ih73) rfl ?_
  refine am_Y.br (c := (6 : Int32) ≤ (0 : Int32)) _ (t := 20) (u := 10) (lv' := [(3, .int (6 : Int32)), (2, .int (0 : Int32)), (0, .ref 95), (1, .int (10 : Int32))]) (st' := []) (h' := ih73) rfl (fun hc => ?_) (fun hc => ?_)
  · exact absurd hc (by decide)
  refine am_Y.run (k := 3) (pc' := 13) (lv' := [(3, .int (6 : Int32)), (2, .int (0 : Int32)), (0, .ref 95), (1, .int (10 : Int32))]) (st' := [.int (10 : Int32), .int (0 : Int32), .ref 95]) (h' := ih73) rfl ?_
  refine am_Y.iast (a := 90) (n := 6) rfl rfl (by decide) ?_
  refine am_Y.run (k := 0) (pc' := 14) (lv' := [(3, .int (6 : Int32)), (2, .int (0 : Int32)), (0, .ref 95), (1, .int (10 : Int32))]) (st' := []) (h' := ih74) rfl ?_
  refine am_Y.run (k := 4) (pc' := 7) (lv' := [(2, .int ((0 : Int32) + (1 : Int32))), (3, .int (6 : Int32)), (0, .ref 95), (1, .int (10 : Int32))]) (st' := [.int (6 : Int32), .int ((0 : Int32) + (1 : Int32))]) (h' := ih74) rfl ?_
  refine am_Y.br (c := (6 : Int32) ≤ ((0 : Int32) + (1 : Int32))) _ (t := 20) (u := 10) (lv' := [(2, .int (1 : Int32)), (3, .int (6 : Int32)), (0, .ref 95), (1, .int (10 : Int32))]) (st' := []) (h' := ih74) rfl (fun hc => ?_) (fun hc => ?_)
  · exact absurd hc (by decide)
  refine am_Y.run (k := 3) (pc' := 13) (lv' := [(2, .int (1 : Int32)), (3, .int (6 : Int32)), (0, .ref 95), (1, .int (10 : Int32))]) (st' := [.int (10 : Int32), .int (1 : Int32), .ref 95]) (h' := ih74) rfl ?_
  refine am_Y.iast (a := 90) (n := 6) rfl rfl (by decide) ?_
  refine am_Y.run (k := 0) (pc' := 14) (lv' := [(2, .int (1 : Int32)), (3, .int (6 : Int32)), (0, .ref 95), (1, .int (10 : Int32))]) (st' := []) (h' := ih75) rfl ?_
  refine am_Y.run (k := 4) (pc' := 7) (lv' := [(2, .int ((1 : Int32) + (1 : Int32))), (3, .int (6 : Int32)), (0, .ref 95), (1, .int (10 : Int32))]) (st' := [.int (6 : Int32), .int ((1 : Int32) + (1 : Int32))]) (h' := ih75) rfl ?_
  refine am_Y.br (c := (6 : Int32) ≤ ((1 : Int32) + (1 : Int32))) _ (t := 20) (u := 10) (lv' := [(2, .int (2 : Int32)), (3, .int (6 : Int32)), (0, .ref 95), (1, .int (10 : Int32))]) (st' := []) (h' := ih75) rfl (fun hc => ?_) (fun hc => ?_)
  · exact absurd hc (by decide)
  refine am_Y.run (k := 3) (pc' := 13) (lv' := [(2, .int (2 : Int32)), (3, .int (6 : Int32)), (0, .ref 95), (1, .int (10 : Int32))]) (st' := [.int (10 : Int32), .int (2 : Int32), .ref 95]) (h' := ih75) rfl ?_
  refine am_Y.iast (a := 90) (n := 6) rfl rfl (by decide) ?_
  refine am_Y.run (k := 0) (pc' := 14) (lv' := [(2, .int (2 : Int32)), (3, .int (6 : Int32)), (0, .ref 95), (1, .int (10 : Int32))]) (st' := []) (h' := ih76) rfl ?_
  refine am_Y.run (k := 4) (pc' := 7) (lv' := [(2, .int ((2 : Int32) + (1 : Int32))), (3, .int (6 : Int32)), (0, .ref 95), (1, .int (10 : Int32))]) (st' := [.int (6 : Int32), .int ((2 : Int32) + (1 : Int32))]) (h' := ih76) rfl ?_
  refine am_Y.br (c := (6 : Int32) ≤ ((2 : Int32) + (1 : Int32))) _ (t := 20) (u := 10) (lv' := [(2, .int (3 : Int32)), (3, .int (6 : Int32)), (0, .ref 95), (1, .int (10 : Int32))]) (st' := []) (h' := ih76) rfl (fun hc => ?_) (fun hc => ?_)
  · exact absurd hc (by decide)
  refine am_Y.run (k := 3) (pc' := 13) (lv' := [(2, .int (3 : Int32)), (3, .int (6 : Int32)), (0, .ref 95), (1, .int (10 : Int32))]) (st' := [.int (10 : Int32), .int (3 : Int32), .ref 95]) (h' := ih76) rfl ?_
  refine am_Y.iast (a := 90) (n := 6) rfl rfl (by decide) ?_
  refine am_Y.run (k := 0) (pc' := 14) (lv' := [(2, .int (3 : Int32)), (3, .int (6 : Int32)), (0, .ref 95), (1, .int (10 : Int32))]) (st' := []) (h' := ih77) rfl ?_
  refine am_Y.run (k := 4) (pc' := 7) (lv' := [(2, .int ((3 : Int32) + (1 : Int32))), (3, .int (6 : Int32)), (0, .ref 95), (1, .int (10 : Int32))]) (st' := [.int (6 : Int32), .int ((3 : Int32) + (1 : Int32))]) (h' := ih77) rfl ?_
  refine am_Y.br (c := (6 : Int32) ≤ ((3 : Int32) + (1 : Int32))) _ (t := 20) (u := 10) (lv' := [(2, .int (4 : Int32)), (3, .int (6 : Int32)), (0, .ref 95), (1, .int (10 : Int32))]) (st' := []) (h' := ih77) rfl (fun hc => ?_) (fun hc => ?_)
  · exact absurd hc (by decide)
  refine am_Y.run (k := 3) (pc' := 13) (lv' := [(2, .int (4 : Int32)), (3, .int (6 : Int32)), (0, .ref 95), (1, .int (10 : Int32))]) (st' := [.int (10 : Int32), .int (4 : Int32), .ref 95]) (h' := ih77) rfl ?_
  refine am_Y.iast (a := 90) (n := 6) rfl rfl (by decide) ?_
  refine am_Y.run (k := 0) (pc' := 14) (lv' := [(2, .int (4 : Int32)), (3, .int (6 : Int32)), (0, .ref 95), (1, .int (10 : Int32))]) (st' := []) (h' := ih78) rfl ?_
  refine am_Y.run (k := 4) (pc' := 7) (lv' := [(2, .int ((4 : Int32) + (1 : Int32))), (3, .int (6 : Int32)), (0, .ref 95), (1, .int (10 : Int32))]) (st' := [.int (6 : Int32), .int ((4 : Int32) + (1 : Int32))]) (h' := ih78) rfl ?_
  refine am_Y.br (c := (6 : Int32) ≤ ((4 : Int32) + (1 : Int32))) _ (t := 20) (u := 10) (lv' := [(2, .int (5 : Int32)), (3, .int (6 : Int32)), (0, .ref 95), (1, .int (10 : Int32))]) (st' := []) (h' := ih78) rfl (fun hc => ?_) (fun hc => ?_)
  · exact absurd hc (by decide)
  refine am_Y.run (k := 3) (pc' := 13) (lv' := [(2, .int (5 : Int32)), (3, .int (6 : Int32)), (0, .ref 95), (1, .int (10 : Int32))]) (st' := [.int (10 : Int32), .int (5 : Int32), .ref 95]) (h' := ih78) rfl ?_
  refine am_Y.iast (a := 90) (n := 6) rfl rfl (by decide) ?_
  refine am_Y.run (k := 0) (pc' := 14) (lv' := [(2, .int (5 : Int32)), (3, .int (6 : Int32)), (0, .ref 95), (1, .int (10 : Int32))]) (st' := []) (h' := ih79) rfl ?_
  refine am_Y.run (k := 4) (pc' := 7) (lv' := [(2, .int ((5 : Int32) + (1 : Int32))), (3, .int (6 : Int32)), (0, .ref 95), (1, .int (10 : Int32))]) (st' := [.int (6 : Int32), .int ((5 : Int32) + (1 : Int32))]) (h' := ih79) rfl ?_
  refine am_Y.br (c := (6 : Int32) ≤ ((5 : Int32) + (1 : Int32))) _ (t := 20) (u := 10) (lv' := [(2, .int (6 : Int32)), (3, .int (6 : Int32)), (0, .ref 95), (1, .int (10 : Int32))]) (st' := []) (h' := ih79) rfl (fun hc => ?_) (fun hc => ?_)
  rotate_left
  · exact absurd (by decide) hc
  exact am_Y.ret rfl
set_option maxRecDepth 100000 in
theorem t_i12 {S : Nat × (Nat → Int32)} : am_Y S 0 0 0 am_M257 0 [(0, .ref 96), (1, .int (10 : Int32))] [] ih79 none ih85 := by
  refine am_Y.run (k := 7) (pc' := 7) (lv' := [(3, .int (6 : Int32)), (2, .int (0 : Int32)), (0, .ref 96), (1, .int (10 : Int32))]) (st' := [.int (6 : Int32), .int (0 : Int32)]) (h' := ih79) rfl ?_
  refine am_Y.br (c := (6 : Int32) ≤ (0 : Int32)) _ (t := 20) (u := 10) (lv' := [(3, .int (6 : Int32)), (2, .int (0 : Int32)), (0, .ref 96), (1, .int (10 : Int32))]) (st' := []) (h' := ih79) rfl (fun hc => ?_) (fun hc => ?_)
  · exact absurd hc (by decide)
  refine am_Y.run (k := 3) (pc' := 13) (lv' := [(3, .int (6 : Int32)), (2, .int (0 : Int32)), (0, .ref 96), (1, .int (10 : Int32))]) (st' := [.int (10 : Int32), .int (0 : Int32), .ref 96]) (h' := ih79) rfl ?_
  refine am_Y.iast (a := 91) (n := 6) rfl rfl (by decide) ?_
  refine am_Y.run (k := 0) (pc' := 14) (lv' := [(3, .int (6 : Int32)), (2, .int (0 : Int32)), (0, .ref 96), (1, .int (10 : Int32))]) (st' := []) (h' := ih80) rfl ?_
  refine am_Y.run (k := 4) (pc' := 7) (lv' := [(2, .int ((0 : Int32) + (1 : Int32))), (3, .int (6 : Int32)), (0, .ref 96), (1, .int (10 : Int32))]) (st' := [.int (6 : Int32), .int ((0 : Int32) + (1 : Int32))]) (h' := ih80) rfl ?_
  refine am_Y.br (c := (6 : Int32) ≤ ((0 : Int32) + (1 : Int32))) _ (t := 20) (u := 10) (lv' := [(2, .int (1 : Int32)), (3, .int (6 : Int32)), (0, .ref 96), (1, .int (10 : Int32))]) (st' := []) (h' := ih80) rfl (fun hc => ?_) (fun hc => ?_)
  · exact absurd hc (by decide)
  refine am_Y.run (k := 3) (pc' := 13) (lv' := [(2, .int (1 : Int32)), (3, .int (6 : Int32)), (0, .ref 96), (1, .int (10 : Int32))]) (st' := [.int (10 : Int32), .int (1 : Int32), .ref 96]) (h' := ih80) rfl ?_
  refine am_Y.iast (a := 91) (n := 6) rfl rfl (by decide) ?_
  refine am_Y.run (k := 0) (pc' := 14) (lv' := [(2, .int (1 : Int32)), (3, .int (6 : Int32)), (0, .ref 96), (1, .int (10 : Int32))]) (st' := []) (h' := ih81) rfl ?_
  refine am_Y.run (k := 4) (pc' := 7) (lv' := [(2, .int ((1 : Int32) + (1 : Int32))), (3, .int (6 : Int32)), (0, .ref 96), (1, .int (10 : Int32))]) (st' := [.int (6 : Int32), .int ((1 : Int32) + (1 : Int32))]) (h' := ih81) rfl ?_
  refine am_Y.br (c := (6 : Int32) ≤ ((1 : Int32) + (1 : Int32))) _ (t := 20) (u := 10) (lv' := [(2, .int (2 : Int32)), (3, .int (6 : Int32)), (0, .ref 96), (1, .int (10 : Int32))]) (st' := []) (h' := ih81) rfl (fun hc => ?_) (fun hc => ?_)
  · exact absurd hc (by decide)
  refine am_Y.run (k := 3) (pc' := 13) (lv' := [(2, .int (2 : Int32)), (3, .int (6 : Int32)), (0, .ref 96), (1, .int (10 : Int32))]) (st' := [.int (10 : Int32), .int (2 : Int32), .ref 96]) (h' := ih81) rfl ?_
  refine am_Y.iast (a := 91) (n := 6) rfl rfl (by decide) ?_
  refine am_Y.run (k := 0) (pc' := 14) (lv' := [(2, .int (2 : Int32)), (3, .int (6 : Int32)), (0, .ref 96), (1, .int (10 : Int32))]) (st' := []) (h' := ih82) rfl ?_
  refine am_Y.run (k := 4) (pc' := 7) (lv' := [(2, .int ((2 : Int32) + (1 : Int32))), (3, .int (6 : Int32)), (0, .ref 96), (1, .int (10 : Int32))]) (st' := [.int (6 : Int32), .int ((2 : Int32) + (1 : Int32))]) (h' := ih82) rfl ?_
  refine am_Y.br (c := (6 : Int32) ≤ ((2 : Int32) + (1 : Int32))) _ (t := 20) (u := 10) (lv' := [(2, .int (3 : Int32)), (3, .int (6 : Int32)), (0, .ref 96), (1, .int (10 : Int32))]) (st' := []) (h' := ih82) rfl (fun hc => ?_) (fun hc => ?_)
  · exact absurd hc (by decide)
  refine am_Y.run (k := 3) (pc' := 13) (lv' := [(2, .int (3 : Int32)), (3, .int (6 : Int32)), (0, .ref 96), (1, .int (10 : Int32))]) (st' := [.int (10 : Int32), .int (3 : Int32), .ref 96]) (h' := ih82) rfl ?_
  refine am_Y.iast (a := 91) (n := 6) rfl rfl (by decide) ?_
  refine am_Y.run (k := 0) (pc' := 14) (lv' := [(2, .int (3 : Int32)), (3, .int (6 : Int32)), (0, .ref 96), (1, .int (10 : Int32))]) (st' := []) (h' := ih83) rfl ?_
  refine am_Y.run (k := 4) (pc' := 7) (lv' := [(2, .int ((3 : Int32) + (1 : Int32))), (3, .int (6 : Int32)), (0, .ref 96), (1, .int (10 : Int32))]) (st' := [.int (6 : Int32), .int ((3 : Int32) + (1 : Int32))]) (h' := ih83) rfl ?_
  refine am_Y.br (c := (6 : Int32) ≤ ((3 : Int32) + (1 : Int32))) _ (t := 20) (u := 10) (lv' := [(2, .int (4 : Int32)), (3, .int (6 : Int32)), (0, .ref 96), (1, .int (10 : Int32))]) (st' := []) (h' := ih83) rfl (fun hc => ?_) (fun hc => ?_)
  · exact absurd hc (by decide)
  refine am_Y.run (k := 3) (pc' := 13) (lv' := [(2, .int (4 : Int32)), (3, .int (6 : Int32)), (0, .ref 96), (1, .int (10 : Int32))]) (st' := [.int (10 : Int32), .int (4 : Int32), .ref 96]) (h' := ih83) rfl ?_
  refine am_Y.iast (a := 91) (n := 6) rfl rfl (by decide) ?_
  refine am_Y.run (k := 0) (pc' := 14) (lv' := [(2, .int (4 : Int32)), (3, .int (6 : Int32)), (0, .ref 96), (1, .int (10 : Int32))]) (st' := []) (h' := ih84) rfl ?_
  refine am_Y.run (k := 4) (pc' := 7) (lv' := [(2, .int ((4 : Int32) + (1 : Int32))), (3, .int (6 : Int32)), (0, .ref 96), (1, .int (10 : Int32))]) (st' := [.int (6 : Int32), .int ((4 : Int32) + (1 : Int32))]) (h' := ih84) rfl ?_
  refine am_Y.br (c := (6 : Int32) ≤ ((4 : Int32) + (1 : Int32))) _ (t := 20) (u := 10) (lv' := [(2, .int (5 : Int32)), (3, .int (6 : Int32)), (0, .ref 96), (1, .int (10 : Int32))]) (st' := []) (h' := ih84) rfl (fun hc => ?_) (fun hc => ?_)
  · exact absurd hc (by decide)
  refine am_Y.run (k := 3) (pc' := 13) (lv' := [(2, .int (5 : Int32)), (3, .int (6 : Int32)), (0, .ref 96), (1, .int (10 : Int32))]) (st' := [.int (10 : Int32), .int (5 : Int32), .ref 96]) (h' := ih84) rfl ?_
  refine am_Y.iast (a := 91) (n := 6) rfl rfl (by decide) ?_
  refine am_Y.run (k := 0) (pc' := 14) (lv' := [(2, .int (5 : Int32)), (3, .int (6 : Int32)), (0, .ref 96), (1, .int (10 : Int32))]) (st' := []) (h' := ih85) rfl ?_
  refine am_Y.run (k := 4) (pc' := 7) (lv' := [(2, .int ((5 : Int32) + (1 : Int32))), (3, .int (6 : Int32)), (0, .ref 96), (1, .int (10 : Int32))]) (st' := [.int (6 : Int32), .int ((5 : Int32) + (1 : Int32))]) (h' := ih85) rfl ?_
  refine am_Y.br (c := (6 : Int32) ≤ ((5 : Int32) + (1 : Int32))) _ (t := 20) (u := 10) (lv' := [(2, .int (6 : Int32)), (3, .int (6 : Int32)), (0, .ref 96), (1, .int (10 : Int32))]) (st' := []) (h' := ih85) rfl (fun hc => ?_) (fun hc => ?_)
  rotate_left
  · exact absurd (by decide) hc
  exact am_Y.ret rfl
set_option maxRecDepth 100000 in
theorem t_i13 {S : Nat × (Nat → Int32)} : am_Y S 1 (am_mc am_M224) (am_ms am_M224) am_M224 0 [(0, .ref 93)] [] ih65 none ih85 := by
  refine am_Y.run (k := 5) (pc' := 8) (lv' := [(0, .ref 93)]) (st' := [.int (6 : Int32), .int (2 : Int32), .ref 93]) (h' := ih65) rfl ?_
  refine am_Y.make (cs := (.inl (4, 2, .inr (.inr (.inr (.inr (fun i => if i < 2 then some (95 + i) else none)))))) :: List.replicate 2 (.inl (0, 6, .inl (fun _ => 0)))) (rest := [.ref 93]) (ds := 14) (len := 4) rfl rfl rfl ?_
  refine am_Y.run (k := 0) (pc' := 12) (lv' := [(0, .ref 93)]) (st' := [.ref 94, .ref 93]) (h' := ih66) rfl ?_
  refine am_Y.run (k := 3) (pc' := 18) (lv' := [(0, .ref 93)]) (st' := [.int (6 : Int32), .ref 93]) (h' := ih67) rfl ?_
  refine am_Y.make (cs := [.inl (0, 6, .inl (fun _ => 0))]) (rest := [.ref 93]) (ds := 6) (len := 2) rfl rfl rfl ?_
  refine am_Y.run (k := 0) (pc' := 20) (lv' := [(0, .ref 93)]) (st' := [.ref 97, .ref 93]) (h' := ih68) rfl ?_
  refine am_Y.run (k := 6) (pc' := 31) (lv' := [(0, .ref 93)]) (st' := [.int (16 : Int32), .ref 93]) (h' := ih69) rfl ?_
  refine am_Y.make (cs := [.inl (1, 16, .inr (.inl (fun _ => 0)))]) (rest := [.ref 93]) (ds := 16) (len := 2) rfl rfl rfl ?_
  refine am_Y.run (k := 0) (pc' := 33) (lv' := [(0, .ref 93)]) (st' := [.ref 98, .ref 93]) (h' := ih70) rfl ?_
  refine am_Y.run (k := 3) (pc' := 39) (lv' := [(0, .ref 93)]) (st' := [.int (16 : Int32), .ref 93]) (h' := ih71) rfl ?_
  refine am_Y.make (cs := [.inl (1, 16, .inr (.inl (fun _ => 0)))]) (rest := [.ref 93]) (ds := 16) (len := 2) rfl rfl rfl ?_
  refine am_Y.run (k := 0) (pc' := 41) (lv' := [(0, .ref 93)]) (st' := [.ref 99, .ref 93]) (h' := ih72) rfl ?_
  refine am_Y.run (k := 15) (pc' := 67) (lv' := [(0, .ref 93)]) (st' := [.int (10 : Int32), .ref 95]) (h' := ih73) rfl ?_
  refine am_Y.call0 (M' := am_M257) (as := [.ref 95, .int (10 : Int32)]) (rest := []) (d' := 0) (r1 := none) (h1 := ih79) rfl (by omega) rfl rfl (t_i11) ?_
  refine am_Y.run (k := 0) (pc' := 70) (lv' := [(0, .ref 93)]) (st' := []) (h' := ih79) rfl ?_
  refine am_Y.run (k := 5) (pc' := 78) (lv' := [(0, .ref 93)]) (st' := [.int (10 : Int32), .ref 96]) (h' := ih79) rfl ?_
  refine am_Y.call0 (M' := am_M257) (as := [.ref 96, .int (10 : Int32)]) (rest := []) (d' := 0) (r1 := none) (h1 := ih85) rfl (by omega) rfl rfl (t_i12) ?_
  refine am_Y.run (k := 0) (pc' := 81) (lv' := [(0, .ref 93)]) (st' := []) (h' := ih85) rfl ?_
  exact am_Y.ret rfl
set_option maxRecDepth 100000 in
theorem t_i14 {S : Nat × (Nat → Int32)} : am_Y S 2 (am_mc am_M96) (am_ms am_M96) am_M96 0 [(0, .ref 53)] [] ih45 none ih86 := by
  refine am_Y.run (k := 3) (pc' := 5) (lv' := [(0, .ref 53)]) (st' := [.ref 53]) (h' := ih45) rfl ?_
  refine am_Y.make (cs := [.inr (2, [.null, .null, .null, .int (0 : Int32)])]) (rest := [.ref 53]) (ds := 4) (len := 3) rfl rfl rfl ?_
  refine am_Y.run (k := 0) (pc' := 8) (lv' := [(0, .ref 53)]) (st' := [.ref 54, .ref 53]) (h' := ih46) rfl ?_
  refine am_Y.run (k := 1) (pc' := 9) (lv' := [(0, .ref 53)]) (st' := [.ref 54, .ref 54, .ref 53]) (h' := ih46) rfl ?_
  refine am_Y.call (M' := am_M221) (as := [.ref 54]) (rest := [.ref 54, .ref 53]) (d' := 0) (r1 := none) (h1 := ih52) rfl (by omega) rfl rfl (t_i8) ?_
  refine am_Y.run (k := 0) (pc' := 12) (lv' := [(0, .ref 53)]) (st' := [.ref 54, .ref 53]) (h' := ih52) rfl ?_
  refine am_Y.run (k := 2) (pc' := 16) (lv' := [(0, .ref 53)]) (st' := [.ref 53]) (h' := ih53) rfl ?_
  refine am_Y.make (cs := [.inr (1, [.null, .null])]) (rest := [.ref 53]) (ds := 2) (len := 3) rfl rfl rfl ?_
  refine am_Y.run (k := 0) (pc' := 19) (lv' := [(0, .ref 53)]) (st' := [.ref 58, .ref 53]) (h' := ih54) rfl ?_
  refine am_Y.run (k := 1) (pc' := 20) (lv' := [(0, .ref 53)]) (st' := [.ref 58, .ref 58, .ref 53]) (h' := ih54) rfl ?_
  refine am_Y.call (M' := am_M222) (as := [.ref 58]) (rest := [.ref 58, .ref 53]) (d' := 0) (r1 := none) (h1 := ih59) rfl (by omega) rfl rfl (t_i9) ?_
  refine am_Y.run (k := 0) (pc' := 23) (lv' := [(0, .ref 53)]) (st' := [.ref 58, .ref 53]) (h' := ih59) rfl ?_
  refine am_Y.run (k := 2) (pc' := 27) (lv' := [(0, .ref 53)]) (st' := [.ref 53]) (h' := ih60) rfl ?_
  refine am_Y.make (cs := [.inr (6, [.null, .int (0 : Int32), .int (0 : Int32)])]) (rest := [.ref 53]) (ds := 3) (len := 3) rfl rfl rfl ?_
  refine am_Y.run (k := 0) (pc' := 30) (lv' := [(0, .ref 53)]) (st' := [.ref 61, .ref 53]) (h' := ih61) rfl ?_
  refine am_Y.run (k := 1) (pc' := 31) (lv' := [(0, .ref 53)]) (st' := [.ref 61, .ref 61, .ref 53]) (h' := ih61) rfl ?_
  refine am_Y.call (M' := am_M223) (as := [.ref 61]) (rest := [.ref 61, .ref 53]) (d' := 0) (r1 := none) (h1 := ih63) rfl (by omega) rfl rfl (t_i10) ?_
  refine am_Y.run (k := 0) (pc' := 34) (lv' := [(0, .ref 53)]) (st' := [.ref 61, .ref 53]) (h' := ih63) rfl ?_
  refine am_Y.run (k := 2) (pc' := 38) (lv' := [(0, .ref 53)]) (st' := [.ref 53]) (h' := ih64) rfl ?_
  refine am_Y.make (cs := [.inr (0, [.null, .null, .int (0 : Int32), .null, .null, .long (0 : Int64), .long (0 : Int64), .int (0 : Int32)])]) (rest := [.ref 53]) (ds := 8) (len := 3) rfl rfl rfl ?_
  refine am_Y.run (k := 0) (pc' := 41) (lv' := [(0, .ref 53)]) (st' := [.ref 93, .ref 53]) (h' := ih65) rfl ?_
  refine am_Y.run (k := 1) (pc' := 42) (lv' := [(0, .ref 53)]) (st' := [.ref 93, .ref 93, .ref 53]) (h' := ih65) rfl ?_
  refine am_Y.call (M' := am_M224) (as := [.ref 93]) (rest := [.ref 93, .ref 53]) (d' := 1) (r1 := none) (h1 := ih85) rfl (by omega) rfl rfl (t_i13) ?_
  refine am_Y.run (k := 0) (pc' := 45) (lv' := [(0, .ref 53)]) (st' := [.ref 93, .ref 53]) (h' := ih85) rfl ?_
  refine am_Y.run (k := 7) (pc' := 58) (lv' := [(0, .ref 53)]) (st' := []) (h' := ih86) rfl ?_
  exact am_Y.ret rfl
set_option maxRecDepth 100000 in
theorem t_i15 {S : Nat × (Nat → Int32)} : am_Y S 0 (am_mc am_M97) (am_ms am_M97) am_M97 0 [(0, .ref 100)] [] ih88 none ih92 := by
  refine am_Y.run (k := 4) (pc' := 8) (lv' := [(0, .ref 100)]) (st' := [.int (300 : Int32), .ref 100]) (h' := ih88) rfl ?_
  refine am_Y.make (cs := [.inl (0, 300, .inl (fun _ => 0))]) (rest := [.ref 100]) (ds := 300) (len := 2) rfl rfl rfl ?_
  refine am_Y.run (k := 0) (pc' := 10) (lv' := [(0, .ref 100)]) (st' := [.ref 101, .ref 100]) (h' := ih89) rfl ?_
  refine am_Y.run (k := 3) (pc' := 17) (lv' := [(0, .ref 100)]) (st' := [.int (301 : Int32), .ref 100]) (h' := ih90) rfl ?_
  refine am_Y.make (cs := [.inl (0, 301, .inl (fun _ => 0))]) (rest := [.ref 100]) (ds := 301) (len := 2) rfl rfl rfl ?_
  refine am_Y.run (k := 0) (pc' := 19) (lv' := [(0, .ref 100)]) (st' := [.ref 102, .ref 100]) (h' := ih91) rfl ?_
  refine am_Y.run (k := 7) (pc' := 32) (lv' := [(0, .ref 100)]) (st' := []) (h' := ih92) rfl ?_
  exact am_Y.ret rfl
set_option maxRecDepth 100000 in
theorem t_i16 {S : Nat × (Nat → Int32)} : am_Y S 0 (am_mc am_M100) (am_ms am_M100) am_M100 0 [(0, .ref 104)] [] ih96 none ih102 := by
  refine am_Y.run (k := 4) (pc' := 8) (lv' := [(0, .ref 104)]) (st' := [.int (300 : Int32), .ref 104]) (h' := ih96) rfl ?_
  refine am_Y.make (cs := [.inl (0, 300, .inl (fun _ => 0))]) (rest := [.ref 104]) (ds := 300) (len := 2) rfl rfl rfl ?_
  refine am_Y.run (k := 0) (pc' := 10) (lv' := [(0, .ref 104)]) (st' := [.ref 105, .ref 104]) (h' := ih97) rfl ?_
  refine am_Y.run (k := 3) (pc' := 16) (lv' := [(0, .ref 104)]) (st' := [.int (24 : Int32), .ref 104]) (h' := ih98) rfl ?_
  refine am_Y.make (cs := [.inl (0, 24, .inl (fun _ => 0))]) (rest := [.ref 104]) (ds := 24) (len := 2) rfl rfl rfl ?_
  refine am_Y.run (k := 0) (pc' := 18) (lv' := [(0, .ref 104)]) (st' := [.ref 106, .ref 104]) (h' := ih99) rfl ?_
  refine am_Y.run (k := 3) (pc' := 23) (lv' := [(0, .ref 104)]) (st' := [.int (3 : Int32), .ref 104]) (h' := ih100) rfl ?_
  refine am_Y.make (cs := [.inl (0, 3, .inl (fun _ => 0))]) (rest := [.ref 104]) (ds := 3) (len := 2) rfl rfl rfl ?_
  refine am_Y.run (k := 0) (pc' := 25) (lv' := [(0, .ref 104)]) (st' := [.ref 107, .ref 104]) (h' := ih101) rfl ?_
  refine am_Y.run (k := 7) (pc' := 38) (lv' := [(0, .ref 104)]) (st' := []) (h' := ih102) rfl ?_
  exact am_Y.ret rfl
set_option maxRecDepth 100000 in
theorem t_i17 {S : Nat × (Nat → Int32)} : am_Y S 1 (am_mc am_M98) (am_ms am_M98) am_M98 0 [(0, .ref 103), (1, .ref 100)] [] ih94 none ih103 := by
  refine am_Y.run (k := 12) (pc' := 20) (lv' := [(0, .ref 103), (1, .ref 100)]) (st' := [.ref 103]) (h' := ih95) rfl ?_
  refine am_Y.make (cs := [.inr (5, [.null, .null, .null, .int (0 : Int32), .int (0 : Int32)])]) (rest := [.ref 103]) (ds := 5) (len := 3) rfl rfl rfl ?_
  refine am_Y.run (k := 0) (pc' := 23) (lv' := [(0, .ref 103), (1, .ref 100)]) (st' := [.ref 104, .ref 103]) (h' := ih96) rfl ?_
  refine am_Y.run (k := 1) (pc' := 24) (lv' := [(0, .ref 103), (1, .ref 100)]) (st' := [.ref 104, .ref 104, .ref 103]) (h' := ih96) rfl ?_
  refine am_Y.call (M' := am_M100) (as := [.ref 104]) (rest := [.ref 104, .ref 103]) (d' := 0) (r1 := none) (h1 := ih102) rfl (by omega) rfl rfl (t_i16) ?_
  refine am_Y.run (k := 0) (pc' := 27) (lv' := [(0, .ref 103), (1, .ref 100)]) (st' := [.ref 104, .ref 103]) (h' := ih102) rfl ?_
  refine am_Y.run (k := 13) (pc' := 51) (lv' := [(0, .ref 103), (1, .ref 100)]) (st' := []) (h' := ih103) rfl ?_
  exact am_Y.ret rfl
set_option maxRecDepth 100000 in
theorem t_i18 {S : Nat × (Nat → Int32)} : am_Y S 0 (am_mc am_M99) (am_ms am_M99) am_M99 0 [(0, .ref 108)] [] ih105 none ih109 := by
  refine am_Y.run (k := 4) (pc' := 7) (lv' := [(0, .ref 108)]) (st' := [.int (12 : Int32), .ref 108]) (h' := ih105) rfl ?_
  refine am_Y.make (cs := [.inl (0, 12, .inl (fun _ => 0))]) (rest := [.ref 108]) (ds := 12) (len := 2) rfl rfl rfl ?_
  refine am_Y.run (k := 0) (pc' := 9) (lv' := [(0, .ref 108)]) (st' := [.ref 109, .ref 108]) (h' := ih106) rfl ?_
  refine am_Y.run (k := 3) (pc' := 15) (lv' := [(0, .ref 108)]) (st' := [.int (64 : Int32), .ref 108]) (h' := ih107) rfl ?_
  refine am_Y.make (cs := [.inl (0, 64, .inl (fun _ => 0))]) (rest := [.ref 108]) (ds := 64) (len := 2) rfl rfl rfl ?_
  refine am_Y.run (k := 0) (pc' := 17) (lv' := [(0, .ref 108)]) (st' := [.ref 110, .ref 108]) (h' := ih108) rfl ?_
  refine am_Y.run (k := 4) (pc' := 25) (lv' := [(0, .ref 108)]) (st' := []) (h' := ih109) rfl ?_
  exact am_Y.ret rfl
set_option maxRecDepth 100000 in
theorem t_i19 {S : Nat × (Nat → Int32)} : am_Y S 0 (am_mc am_M100) (am_ms am_M100) am_M100 0 [(0, .ref 113)] [] ih115 none ih121 := by
  refine am_Y.run (k := 4) (pc' := 8) (lv' := [(0, .ref 113)]) (st' := [.int (300 : Int32), .ref 113]) (h' := ih115) rfl ?_
  refine am_Y.make (cs := [.inl (0, 300, .inl (fun _ => 0))]) (rest := [.ref 113]) (ds := 300) (len := 2) rfl rfl rfl ?_
  refine am_Y.run (k := 0) (pc' := 10) (lv' := [(0, .ref 113)]) (st' := [.ref 114, .ref 113]) (h' := ih116) rfl ?_
  refine am_Y.run (k := 3) (pc' := 16) (lv' := [(0, .ref 113)]) (st' := [.int (24 : Int32), .ref 113]) (h' := ih117) rfl ?_
  refine am_Y.make (cs := [.inl (0, 24, .inl (fun _ => 0))]) (rest := [.ref 113]) (ds := 24) (len := 2) rfl rfl rfl ?_
  refine am_Y.run (k := 0) (pc' := 18) (lv' := [(0, .ref 113)]) (st' := [.ref 115, .ref 113]) (h' := ih118) rfl ?_
  refine am_Y.run (k := 3) (pc' := 23) (lv' := [(0, .ref 113)]) (st' := [.int (3 : Int32), .ref 113]) (h' := ih119) rfl ?_
  refine am_Y.make (cs := [.inl (0, 3, .inl (fun _ => 0))]) (rest := [.ref 113]) (ds := 3) (len := 2) rfl rfl rfl ?_
  refine am_Y.run (k := 0) (pc' := 25) (lv' := [(0, .ref 113)]) (st' := [.ref 116, .ref 113]) (h' := ih120) rfl ?_
  refine am_Y.run (k := 7) (pc' := 38) (lv' := [(0, .ref 113)]) (st' := []) (h' := ih121) rfl ?_
  exact am_Y.ret rfl
set_option maxRecDepth 100000 in
theorem t_i20 {S : Nat × (Nat → Int32)} : am_Y S 0 (am_mc am_M100) (am_ms am_M100) am_M100 0 [(0, .ref 117)] [] ih123 none ih129 := by
  refine am_Y.run (k := 4) (pc' := 8) (lv' := [(0, .ref 117)]) (st' := [.int (300 : Int32), .ref 117]) (h' := ih123) rfl ?_
  refine am_Y.make (cs := [.inl (0, 300, .inl (fun _ => 0))]) (rest := [.ref 117]) (ds := 300) (len := 2) rfl rfl rfl ?_
  refine am_Y.run (k := 0) (pc' := 10) (lv' := [(0, .ref 117)]) (st' := [.ref 118, .ref 117]) (h' := ih124) rfl ?_
  refine am_Y.run (k := 3) (pc' := 16) (lv' := [(0, .ref 117)]) (st' := [.int (24 : Int32), .ref 117]) (h' := ih125) rfl ?_
  refine am_Y.make (cs := [.inl (0, 24, .inl (fun _ => 0))]) (rest := [.ref 117]) (ds := 24) (len := 2) rfl rfl rfl ?_
  refine am_Y.run (k := 0) (pc' := 18) (lv' := [(0, .ref 117)]) (st' := [.ref 119, .ref 117]) (h' := ih126) rfl ?_
  refine am_Y.run (k := 3) (pc' := 23) (lv' := [(0, .ref 117)]) (st' := [.int (3 : Int32), .ref 117]) (h' := ih127) rfl ?_
  refine am_Y.make (cs := [.inl (0, 3, .inl (fun _ => 0))]) (rest := [.ref 117]) (ds := 3) (len := 2) rfl rfl rfl ?_
  refine am_Y.run (k := 0) (pc' := 25) (lv' := [(0, .ref 117)]) (st' := [.ref 120, .ref 117]) (h' := ih128) rfl ?_
  refine am_Y.run (k := 7) (pc' := 38) (lv' := [(0, .ref 117)]) (st' := []) (h' := ih129) rfl ?_
  exact am_Y.ret rfl
set_option maxRecDepth 100000 in
theorem t_i21 {S : Nat × (Nat → Int32)} : am_Y S 0 (am_mc am_M100) (am_ms am_M100) am_M100 0 [(0, .ref 121)] [] ih131 none ih137 := by
  refine am_Y.run (k := 4) (pc' := 8) (lv' := [(0, .ref 121)]) (st' := [.int (300 : Int32), .ref 121]) (h' := ih131) rfl ?_
  refine am_Y.make (cs := [.inl (0, 300, .inl (fun _ => 0))]) (rest := [.ref 121]) (ds := 300) (len := 2) rfl rfl rfl ?_
  refine am_Y.run (k := 0) (pc' := 10) (lv' := [(0, .ref 121)]) (st' := [.ref 122, .ref 121]) (h' := ih132) rfl ?_
  refine am_Y.run (k := 3) (pc' := 16) (lv' := [(0, .ref 121)]) (st' := [.int (24 : Int32), .ref 121]) (h' := ih133) rfl ?_
  refine am_Y.make (cs := [.inl (0, 24, .inl (fun _ => 0))]) (rest := [.ref 121]) (ds := 24) (len := 2) rfl rfl rfl ?_
  refine am_Y.run (k := 0) (pc' := 18) (lv' := [(0, .ref 121)]) (st' := [.ref 123, .ref 121]) (h' := ih134) rfl ?_
  refine am_Y.run (k := 3) (pc' := 23) (lv' := [(0, .ref 121)]) (st' := [.int (3 : Int32), .ref 121]) (h' := ih135) rfl ?_
  refine am_Y.make (cs := [.inl (0, 3, .inl (fun _ => 0))]) (rest := [.ref 121]) (ds := 3) (len := 2) rfl rfl rfl ?_
  refine am_Y.run (k := 0) (pc' := 25) (lv' := [(0, .ref 121)]) (st' := [.ref 124, .ref 121]) (h' := ih136) rfl ?_
  refine am_Y.run (k := 7) (pc' := 38) (lv' := [(0, .ref 121)]) (st' := []) (h' := ih137) rfl ?_
  exact am_Y.ret rfl
set_option maxRecDepth 100000 in
theorem t_i22 {S : Nat × (Nat → Int32)} : am_Y S 0 (am_mc am_M100) (am_ms am_M100) am_M100 0 [(0, .ref 125)] [] ih139 none ih145 := by
  refine am_Y.run (k := 4) (pc' := 8) (lv' := [(0, .ref 125)]) (st' := [.int (300 : Int32), .ref 125]) (h' := ih139) rfl ?_
  refine am_Y.make (cs := [.inl (0, 300, .inl (fun _ => 0))]) (rest := [.ref 125]) (ds := 300) (len := 2) rfl rfl rfl ?_
  refine am_Y.run (k := 0) (pc' := 10) (lv' := [(0, .ref 125)]) (st' := [.ref 126, .ref 125]) (h' := ih140) rfl ?_
  refine am_Y.run (k := 3) (pc' := 16) (lv' := [(0, .ref 125)]) (st' := [.int (24 : Int32), .ref 125]) (h' := ih141) rfl ?_
  refine am_Y.make (cs := [.inl (0, 24, .inl (fun _ => 0))]) (rest := [.ref 125]) (ds := 24) (len := 2) rfl rfl rfl ?_
  refine am_Y.run (k := 0) (pc' := 18) (lv' := [(0, .ref 125)]) (st' := [.ref 127, .ref 125]) (h' := ih142) rfl ?_
  refine am_Y.run (k := 3) (pc' := 23) (lv' := [(0, .ref 125)]) (st' := [.int (3 : Int32), .ref 125]) (h' := ih143) rfl ?_
  refine am_Y.make (cs := [.inl (0, 3, .inl (fun _ => 0))]) (rest := [.ref 125]) (ds := 3) (len := 2) rfl rfl rfl ?_
  refine am_Y.run (k := 0) (pc' := 25) (lv' := [(0, .ref 125)]) (st' := [.ref 128, .ref 125]) (h' := ih144) rfl ?_
  refine am_Y.run (k := 7) (pc' := 38) (lv' := [(0, .ref 125)]) (st' := []) (h' := ih145) rfl ?_
  exact am_Y.ret rfl
set_option maxRecDepth 100000 in
theorem t_i23 {S : Nat × (Nat → Int32)} : am_Y S 3 (am_mc am_M0) (am_ms am_M0) am_M0 0 [(0, .ref 5)] [] ih1 none ih146 := by
  refine am_Y.run (k := 3) (pc' := 5) (lv' := [(0, .ref 5)]) (st' := [.ref 5]) (h' := ih1) rfl ?_
  refine am_Y.make (cs := [.inr (7, [.null, .null, .null, .null, .int (0 : Int32), .int (0 : Int32)])]) (rest := [.ref 5]) (ds := 6) (len := 3) rfl rfl rfl ?_
  refine am_Y.run (k := 0) (pc' := 8) (lv' := [(0, .ref 5)]) (st' := [.ref 6, .ref 5]) (h' := ih2) rfl ?_
  refine am_Y.run (k := 1) (pc' := 9) (lv' := [(0, .ref 5)]) (st' := [.ref 6, .ref 6, .ref 5]) (h' := ih2) rfl ?_
  refine am_Y.call (M' := am_M96) (as := [.ref 6]) (rest := [.ref 6, .ref 5]) (d' := 2) (r1 := none) (h1 := ih43) rfl (by omega) rfl rfl (t_i7) ?_
  refine am_Y.run (k := 0) (pc' := 12) (lv' := [(0, .ref 5)]) (st' := [.ref 6, .ref 5]) (h' := ih43) rfl ?_
  refine am_Y.run (k := 2) (pc' := 16) (lv' := [(0, .ref 5)]) (st' := [.ref 5]) (h' := ih44) rfl ?_
  refine am_Y.make (cs := [.inr (7, [.null, .null, .null, .null, .int (0 : Int32), .int (0 : Int32)])]) (rest := [.ref 5]) (ds := 6) (len := 3) rfl rfl rfl ?_
  refine am_Y.run (k := 0) (pc' := 19) (lv' := [(0, .ref 5)]) (st' := [.ref 53, .ref 5]) (h' := ih45) rfl ?_
  refine am_Y.run (k := 1) (pc' := 20) (lv' := [(0, .ref 5)]) (st' := [.ref 53, .ref 53, .ref 5]) (h' := ih45) rfl ?_
  refine am_Y.call (M' := am_M96) (as := [.ref 53]) (rest := [.ref 53, .ref 5]) (d' := 2) (r1 := none) (h1 := ih86) rfl (by omega) rfl rfl (t_i14) ?_
  refine am_Y.run (k := 0) (pc' := 23) (lv' := [(0, .ref 5)]) (st' := [.ref 53, .ref 5]) (h' := ih86) rfl ?_
  refine am_Y.run (k := 2) (pc' := 27) (lv' := [(0, .ref 5)]) (st' := [.ref 5]) (h' := ih87) rfl ?_
  refine am_Y.make (cs := [.inr (8, [.null, .null, .int (0 : Int32), .int (0 : Int32)])]) (rest := [.ref 5]) (ds := 4) (len := 3) rfl rfl rfl ?_
  refine am_Y.run (k := 0) (pc' := 30) (lv' := [(0, .ref 5)]) (st' := [.ref 100, .ref 5]) (h' := ih88) rfl ?_
  refine am_Y.run (k := 1) (pc' := 31) (lv' := [(0, .ref 5)]) (st' := [.ref 100, .ref 100, .ref 5]) (h' := ih88) rfl ?_
  refine am_Y.call (M' := am_M97) (as := [.ref 100]) (rest := [.ref 100, .ref 5]) (d' := 0) (r1 := none) (h1 := ih92) rfl (by omega) rfl rfl (t_i15) ?_
  refine am_Y.run (k := 0) (pc' := 34) (lv' := [(0, .ref 5)]) (st' := [.ref 100, .ref 5]) (h' := ih92) rfl ?_
  refine am_Y.run (k := 2) (pc' := 38) (lv' := [(0, .ref 5)]) (st' := [.ref 5]) (h' := ih93) rfl ?_
  refine am_Y.make (cs := [.inr (4, [.int (0 : Int32), .int (0 : Int32), .int (0 : Int32), .null, .null, .int (0 : Int32), .int (0 : Int32), .int (0 : Int32)])]) (rest := [.ref 5]) (ds := 8) (len := 3) rfl rfl rfl ?_
  refine am_Y.run (k := 0) (pc' := 41) (lv' := [(0, .ref 5)]) (st' := [.ref 103, .ref 5]) (h' := ih94) rfl ?_
  refine am_Y.run (k := 3) (pc' := 46) (lv' := [(0, .ref 5)]) (st' := [.ref 100, .ref 103, .ref 103, .ref 5]) (h' := ih94) rfl ?_
  refine am_Y.call (M' := am_M98) (as := [.ref 103, .ref 100]) (rest := [.ref 103, .ref 5]) (d' := 1) (r1 := none) (h1 := ih103) rfl (by omega) rfl rfl (t_i17) ?_
  refine am_Y.run (k := 0) (pc' := 49) (lv' := [(0, .ref 5)]) (st' := [.ref 103, .ref 5]) (h' := ih103) rfl ?_
  refine am_Y.run (k := 2) (pc' := 53) (lv' := [(0, .ref 5)]) (st' := [.ref 5]) (h' := ih104) rfl ?_
  refine am_Y.make (cs := [.inr (3, [.null, .null, .int (0 : Int32)])]) (rest := [.ref 5]) (ds := 3) (len := 3) rfl rfl rfl ?_
  refine am_Y.run (k := 0) (pc' := 56) (lv' := [(0, .ref 5)]) (st' := [.ref 108, .ref 5]) (h' := ih105) rfl ?_
  refine am_Y.run (k := 1) (pc' := 57) (lv' := [(0, .ref 5)]) (st' := [.ref 108, .ref 108, .ref 5]) (h' := ih105) rfl ?_
  refine am_Y.call (M' := am_M99) (as := [.ref 108]) (rest := [.ref 108, .ref 5]) (d' := 0) (r1 := none) (h1 := ih109) rfl (by omega) rfl rfl (t_i18) ?_
  refine am_Y.run (k := 0) (pc' := 60) (lv' := [(0, .ref 5)]) (st' := [.ref 108, .ref 5]) (h' := ih109) rfl ?_
  refine am_Y.run (k := 3) (pc' := 65) (lv' := [(0, .ref 5)]) (st' := [.int (4 : Int32), .ref 5]) (h' := ih110) rfl ?_
  refine am_Y.make (cs := [.inl (3, 4, .inr (.inr (.inr (.inr (fun _ => none)))))]) (rest := [.ref 5]) (ds := 4) (len := 3) rfl rfl rfl ?_
  refine am_Y.run (k := 0) (pc' := 68) (lv' := [(0, .ref 5)]) (st' := [.ref 111, .ref 5]) (h' := ih111) rfl ?_
  refine am_Y.run (k := 3) (pc' := 74) (lv' := [(0, .ref 5)]) (st' := [.int (8 : Int32), .ref 5]) (h' := ih112) rfl ?_
  refine am_Y.make (cs := [.inl (0, 8, .inl (fun _ => 0))]) (rest := [.ref 5]) (ds := 8) (len := 2) rfl rfl rfl ?_
  refine am_Y.run (k := 0) (pc' := 76) (lv' := [(0, .ref 5)]) (st' := [.ref 112, .ref 5]) (h' := ih113) rfl ?_
  refine am_Y.run (k := 5) (pc' := 83) (lv' := [(1, .int (0 : Int32)), (0, .ref 5)]) (st' := [.int (4 : Int32), .int (0 : Int32)]) (h' := ih114) rfl ?_
  refine am_Y.br (c := (4 : Int32) ≤ (0 : Int32)) _ (t := 105) (u := 86) (lv' := [(1, .int (0 : Int32)), (0, .ref 5)]) (st' := []) (h' := ih114) rfl (fun hc => ?_) (fun hc => ?_)
  · exact absurd hc (by decide)
  refine am_Y.run (k := 3) (pc' := 91) (lv' := [(1, .int (0 : Int32)), (0, .ref 5)]) (st' := [.int (0 : Int32), .ref 111]) (h' := ih114) rfl ?_
  refine am_Y.make (cs := [.inr (5, [.null, .null, .null, .int (0 : Int32), .int (0 : Int32)])]) (rest := [.int (0 : Int32), .ref 111]) (ds := 5) (len := 3) rfl rfl rfl ?_
  refine am_Y.run (k := 0) (pc' := 94) (lv' := [(1, .int (0 : Int32)), (0, .ref 5)]) (st' := [.ref 113, .int (0 : Int32), .ref 111]) (h' := ih115) rfl ?_
  refine am_Y.run (k := 1) (pc' := 95) (lv' := [(1, .int (0 : Int32)), (0, .ref 5)]) (st' := [.ref 113, .ref 113, .int (0 : Int32), .ref 111]) (h' := ih115) rfl ?_
  refine am_Y.call (M' := am_M100) (as := [.ref 113]) (rest := [.ref 113, .int (0 : Int32), .ref 111]) (d' := 0) (r1 := none) (h1 := ih121) rfl (by omega) rfl rfl (t_i19) ?_
  refine am_Y.run (k := 0) (pc' := 98) (lv' := [(1, .int (0 : Int32)), (0, .ref 5)]) (st' := [.ref 113, .int (0 : Int32), .ref 111]) (h' := ih121) rfl ?_
  refine am_Y.run (k := 5) (pc' := 83) (lv' := [(1, .int ((0 : Int32) + (1 : Int32))), (0, .ref 5)]) (st' := [.int (4 : Int32), .int ((0 : Int32) + (1 : Int32))]) (h' := ih122) rfl ?_
  refine am_Y.br (c := (4 : Int32) ≤ ((0 : Int32) + (1 : Int32))) _ (t := 105) (u := 86) (lv' := [(1, .int (1 : Int32)), (0, .ref 5)]) (st' := []) (h' := ih122) rfl (fun hc => ?_) (fun hc => ?_)
  · exact absurd hc (by decide)
  refine am_Y.run (k := 3) (pc' := 91) (lv' := [(1, .int (1 : Int32)), (0, .ref 5)]) (st' := [.int (1 : Int32), .ref 111]) (h' := ih122) rfl ?_
  refine am_Y.make (cs := [.inr (5, [.null, .null, .null, .int (0 : Int32), .int (0 : Int32)])]) (rest := [.int (1 : Int32), .ref 111]) (ds := 5) (len := 3) rfl rfl rfl ?_
  refine am_Y.run (k := 0) (pc' := 94) (lv' := [(1, .int (1 : Int32)), (0, .ref 5)]) (st' := [.ref 117, .int (1 : Int32), .ref 111]) (h' := ih123) rfl ?_
  refine am_Y.run (k := 1) (pc' := 95) (lv' := [(1, .int (1 : Int32)), (0, .ref 5)]) (st' := [.ref 117, .ref 117, .int (1 : Int32), .ref 111]) (h' := ih123) rfl ?_
  refine am_Y.call (M' := am_M100) (as := [.ref 117]) (rest := [.ref 117, .int (1 : Int32), .ref 111]) (d' := 0) (r1 := none) (h1 := ih129) rfl (by omega) rfl rfl (t_i20) ?_
  refine am_Y.run (k := 0) (pc' := 98) (lv' := [(1, .int (1 : Int32)), (0, .ref 5)]) (st' := [.ref 117, .int (1 : Int32), .ref 111]) (h' := ih129) rfl ?_
  refine am_Y.run (k := 5) (pc' := 83) (lv' := [(1, .int ((1 : Int32) + (1 : Int32))), (0, .ref 5)]) (st' := [.int (4 : Int32), .int ((1 : Int32) + (1 : Int32))]) (h' := ih130) rfl ?_
  refine am_Y.br (c := (4 : Int32) ≤ ((1 : Int32) + (1 : Int32))) _ (t := 105) (u := 86) (lv' := [(1, .int (2 : Int32)), (0, .ref 5)]) (st' := []) (h' := ih130) rfl (fun hc => ?_) (fun hc => ?_)
  · exact absurd hc (by decide)
  refine am_Y.run (k := 3) (pc' := 91) (lv' := [(1, .int (2 : Int32)), (0, .ref 5)]) (st' := [.int (2 : Int32), .ref 111]) (h' := ih130) rfl ?_
  refine am_Y.make (cs := [.inr (5, [.null, .null, .null, .int (0 : Int32), .int (0 : Int32)])]) (rest := [.int (2 : Int32), .ref 111]) (ds := 5) (len := 3) rfl rfl rfl ?_
  refine am_Y.run (k := 0) (pc' := 94) (lv' := [(1, .int (2 : Int32)), (0, .ref 5)]) (st' := [.ref 121, .int (2 : Int32), .ref 111]) (h' := ih131) rfl ?_
  refine am_Y.run (k := 1) (pc' := 95) (lv' := [(1, .int (2 : Int32)), (0, .ref 5)]) (st' := [.ref 121, .ref 121, .int (2 : Int32), .ref 111]) (h' := ih131) rfl ?_
  refine am_Y.call (M' := am_M100) (as := [.ref 121]) (rest := [.ref 121, .int (2 : Int32), .ref 111]) (d' := 0) (r1 := none) (h1 := ih137) rfl (by omega) rfl rfl (t_i21) ?_
  refine am_Y.run (k := 0) (pc' := 98) (lv' := [(1, .int (2 : Int32)), (0, .ref 5)]) (st' := [.ref 121, .int (2 : Int32), .ref 111]) (h' := ih137) rfl ?_
  refine am_Y.run (k := 5) (pc' := 83) (lv' := [(1, .int ((2 : Int32) + (1 : Int32))), (0, .ref 5)]) (st' := [.int (4 : Int32), .int ((2 : Int32) + (1 : Int32))]) (h' := ih138) rfl ?_
  refine am_Y.br (c := (4 : Int32) ≤ ((2 : Int32) + (1 : Int32))) _ (t := 105) (u := 86) (lv' := [(1, .int (3 : Int32)), (0, .ref 5)]) (st' := []) (h' := ih138) rfl (fun hc => ?_) (fun hc => ?_)
  · exact absurd hc (by decide)
  refine am_Y.run (k := 3) (pc' := 91) (lv' := [(1, .int (3 : Int32)), (0, .ref 5)]) (st' := [.int (3 : Int32), .ref 111]) (h' := ih138) rfl ?_
  refine am_Y.make (cs := [.inr (5, [.null, .null, .null, .int (0 : Int32), .int (0 : Int32)])]) (rest := [.int (3 : Int32), .ref 111]) (ds := 5) (len := 3) rfl rfl rfl ?_
  refine am_Y.run (k := 0) (pc' := 94) (lv' := [(1, .int (3 : Int32)), (0, .ref 5)]) (st' := [.ref 125, .int (3 : Int32), .ref 111]) (h' := ih139) rfl ?_
  refine am_Y.run (k := 1) (pc' := 95) (lv' := [(1, .int (3 : Int32)), (0, .ref 5)]) (st' := [.ref 125, .ref 125, .int (3 : Int32), .ref 111]) (h' := ih139) rfl ?_
  refine am_Y.call (M' := am_M100) (as := [.ref 125]) (rest := [.ref 125, .int (3 : Int32), .ref 111]) (d' := 0) (r1 := none) (h1 := ih145) rfl (by omega) rfl rfl (t_i22) ?_
  refine am_Y.run (k := 0) (pc' := 98) (lv' := [(1, .int (3 : Int32)), (0, .ref 5)]) (st' := [.ref 125, .int (3 : Int32), .ref 111]) (h' := ih145) rfl ?_
  refine am_Y.run (k := 5) (pc' := 83) (lv' := [(1, .int ((3 : Int32) + (1 : Int32))), (0, .ref 5)]) (st' := [.int (4 : Int32), .int ((3 : Int32) + (1 : Int32))]) (h' := ih146) rfl ?_
  refine am_Y.br (c := (4 : Int32) ≤ ((3 : Int32) + (1 : Int32))) _ (t := 105) (u := 86) (lv' := [(1, .int (4 : Int32)), (0, .ref 5)]) (st' := []) (h' := ih146) rfl (fun hc => ?_) (fun hc => ?_)
  rotate_left
  · exact absurd (by decide) hc
  exact am_Y.ret rfl
set_option maxRecDepth 100000 in
theorem t_iM {S : Nat × (Nat → Int32)} (N : Nat) (im2 : Mem) (hm : f_m_copy_130_131 N im1 = some im2) : am_Y S 1 (am_mc am_M1) (am_ms am_M1) am_M1 0 [(0, .ref 129)] [] ih147 none (hp im2) := by
  refine am_Y.run (k := 4) (pc' := 8) (lv' := [(0, .ref 129)]) (st' := [.int (3826 : Int32), .ref 129]) (h' := ih147) rfl ?_
  refine am_Y.make (cs := [.inl (0, 3826, .inl (fun _ => 0))]) (rest := [.ref 129]) (ds := 3826) (len := 2) rfl rfl rfl ?_
  refine am_Y.run (k := 0) (pc' := 10) (lv' := [(0, .ref 129)]) (st' := [.ref 130, .ref 129]) (h' := ih148) rfl ?_
  refine am_Y.run (k := 3) (pc' := 17) (lv' := [(0, .ref 129)]) (st' := [.int (3826 : Int32), .ref 129]) (h' := ih149) rfl ?_
  refine am_Y.make (cs := [.inl (0, 3826, .inl (fun _ => 0))]) (rest := [.ref 129]) (ds := 3826) (len := 2) rfl rfl rfl ?_
  refine am_Y.run (k := 0) (pc' := 19) (lv' := [(0, .ref 129)]) (st' := [.ref 131, .ref 129]) (h' := ih150) rfl ?_
  refine am_Y.run (k := 3) (pc' := 26) (lv' := [(0, .ref 129)]) (st' := [.int (2820 : Int32), .ref 129]) (h' := ih151) rfl ?_
  refine am_Y.make (cs := [.inl (0, 2820, .inl (fun _ => 0))]) (rest := [.ref 129]) (ds := 2820) (len := 2) rfl rfl rfl ?_
  refine am_Y.run (k := 0) (pc' := 28) (lv' := [(0, .ref 129)]) (st' := [.ref 132, .ref 129]) (h' := ih152) rfl ?_
  refine am_Y.run (k := 3) (pc' := 35) (lv' := [(0, .ref 129)]) (st' := [.int (300 : Int32), .ref 129]) (h' := ih153) rfl ?_
  refine am_Y.make (cs := [.inl (0, 300, .inl (fun _ => 0))]) (rest := [.ref 129]) (ds := 300) (len := 2) rfl rfl rfl ?_
  refine am_Y.run (k := 0) (pc' := 37) (lv' := [(0, .ref 129)]) (st' := [.ref 133, .ref 129]) (h' := ih154) rfl ?_
  refine am_Y.run (k := 9) (pc' := 54) (lv' := [(0, .ref 129)]) (st' := [.int (160 : Int32), .ref 129]) (h' := ih155) rfl ?_
  refine am_Y.make (cs := [.inl (0, 160, .inl (fun _ => 0))]) (rest := [.ref 129]) (ds := 160) (len := 2) rfl rfl rfl ?_
  refine am_Y.run (k := 0) (pc' := 56) (lv' := [(0, .ref 129)]) (st' := [.ref 134, .ref 129]) (h' := ih156) rfl ?_
  refine am_Y.run (k := 3) (pc' := 62) (lv' := [(0, .ref 129)]) (st' := [.int (9 : Int32), .ref 129]) (h' := ih157) rfl ?_
  refine am_Y.make (cs := [.inl (0, 9, .inl (fun _ => 0))]) (rest := [.ref 129]) (ds := 9) (len := 2) rfl rfl rfl ?_
  refine am_Y.run (k := 0) (pc' := 64) (lv' := [(0, .ref 129)]) (st' := [.ref 135, .ref 129]) (h' := ih158) rfl ?_
  refine am_Y.run (k := 3) (pc' := 70) (lv' := [(0, .ref 129)]) (st' := [.int (54 : Int32), .ref 129]) (h' := ih159) rfl ?_
  refine am_Y.make (cs := [.inl (0, 54, .inl (fun _ => 0))]) (rest := [.ref 129]) (ds := 54) (len := 2) rfl rfl rfl ?_
  refine am_Y.run (k := 0) (pc' := 72) (lv' := [(0, .ref 129)]) (st' := [.ref 136, .ref 129]) (h' := ih160) rfl ?_
  refine am_Y.run (k := 3) (pc' := 78) (lv' := [(0, .ref 129)]) (st' := [.int (54 : Int32), .ref 129]) (h' := ih161) rfl ?_
  refine am_Y.make (cs := [.inl (0, 54, .inl (fun _ => 0))]) (rest := [.ref 129]) (ds := 54) (len := 2) rfl rfl rfl ?_
  refine am_Y.run (k := 0) (pc' := 80) (lv' := [(0, .ref 129)]) (st' := [.ref 137, .ref 129]) (h' := ih162) rfl ?_
  refine am_Y.run (k := 3) (pc' := 86) (lv' := [(0, .ref 129)]) (st' := [.int (12 : Int32), .ref 129]) (h' := ih163) rfl ?_
  refine am_Y.make (cs := [.inl (0, 12, .inl (fun _ => 0))]) (rest := [.ref 129]) (ds := 12) (len := 2) rfl rfl rfl ?_
  refine am_Y.run (k := 0) (pc' := 88) (lv' := [(0, .ref 129)]) (st' := [.ref 138, .ref 129]) (h' := ih164) rfl ?_
  refine am_Y.run (k := 3) (pc' := 95) (lv' := [(0, .ref 129)]) (st' := [.int (330 : Int32), .ref 129]) (h' := ih165) rfl ?_
  refine am_Y.make (cs := [.inl (1, 330, .inr (.inl (fun _ => 0)))]) (rest := [.ref 129]) (ds := 330) (len := 2) rfl rfl rfl ?_
  refine am_Y.run (k := 0) (pc' := 97) (lv' := [(0, .ref 129)]) (st' := [.ref 139, .ref 129]) (h' := ih166) rfl ?_
  refine am_Y.run (k := 3) (pc' := 104) (lv' := [(0, .ref 129)]) (st' := [.int (330 : Int32), .ref 129]) (h' := ih167) rfl ?_
  refine am_Y.make (cs := [.inl (2, 330, .inl (fun _ => 0))]) (rest := [.ref 129]) (ds := 330) (len := 2) rfl rfl rfl ?_
  refine am_Y.run (k := 0) (pc' := 106) (lv' := [(0, .ref 129)]) (st' := [.ref 140, .ref 129]) (h' := ih168) rfl ?_
  refine am_Y.run (k := 3) (pc' := 112) (lv' := [(0, .ref 129)]) (st' := [.int (8 : Int32), .ref 129]) (h' := ih169) rfl ?_
  refine am_Y.make (cs := [.inl (0, 8, .inl (fun _ => 0))]) (rest := [.ref 129]) (ds := 8) (len := 2) rfl rfl rfl ?_
  refine am_Y.run (k := 0) (pc' := 114) (lv' := [(0, .ref 129)]) (st' := [.ref 141, .ref 129]) (h' := ih170) rfl ?_
  refine am_Y.run (k := 3) (pc' := 120) (lv' := [(0, .ref 129)]) (st' := [.int (16 : Int32), .ref 129]) (h' := ih171) rfl ?_
  refine am_Y.make (cs := [.inl (1, 16, .inr (.inl (fun _ => 0)))]) (rest := [.ref 129]) (ds := 16) (len := 2) rfl rfl rfl ?_
  refine am_Y.run (k := 0) (pc' := 122) (lv' := [(0, .ref 129)]) (st' := [.ref 142, .ref 129]) (h' := ih172) rfl ?_
  refine am_Y.run (k := 3) (pc' := 128) (lv' := [(0, .ref 129)]) (st' := [.int (16 : Int32), .ref 129]) (h' := ih173) rfl ?_
  refine am_Y.make (cs := [.inl (1, 16, .inr (.inl (fun _ => 0)))]) (rest := [.ref 129]) (ds := 16) (len := 2) rfl rfl rfl ?_
  refine am_Y.run (k := 0) (pc' := 130) (lv' := [(0, .ref 129)]) (st' := [.ref 143, .ref 129]) (h' := ih174) rfl ?_
  refine am_Y.run (k := 5) (pc' := 140) (lv' := [(0, .ref 129)]) (st' := [.int (61 : Int32), .int (4 : Int32), .ref 130]) (h' := ih175) rfl ?_
  refine am_Y.iast (a := 125) (n := 3826) rfl rfl (by decide) ?_
  refine am_Y.run (k := 0) (pc' := 141) (lv' := [(0, .ref 129)]) (st' := []) (h' := ih176) rfl ?_
  refine am_Y.run (k := 4) (pc' := 148) (lv' := [(0, .ref 129)]) (st' := [.int (-1 : Int32), .int (6 : Int32), .ref 130]) (h' := ih176) rfl ?_
  refine am_Y.iast (a := 125) (n := 3826) rfl rfl (by decide) ?_
  refine am_Y.run (k := 0) (pc' := 149) (lv' := [(0, .ref 129)]) (st' := []) (h' := ih177) rfl ?_
  refine am_Y.run (k := 4) (pc' := 154) (lv' := [(1, .int (0 : Int32)), (0, .ref 129)]) (st' := [.int (12 : Int32), .int (0 : Int32)]) (h' := ih177) rfl ?_
  refine am_Y.br (c := (12 : Int32) ≤ (0 : Int32)) _ (t := 174) (u := 157) (lv' := [(1, .int (0 : Int32)), (0, .ref 129)]) (st' := []) (h' := ih177) rfl (fun hc => ?_) (fun hc => ?_)
  · exact absurd hc (by decide)
  refine am_Y.run (k := 6) (pc' := 167) (lv' := [(1, .int (0 : Int32)), (0, .ref 129)]) (st' := [.int (10 : Int32), .int ((108 : Int32) + (0 : Int32)), .ref 130]) (h' := ih177) rfl ?_
  refine am_Y.iast (a := 125) (n := 3826) rfl rfl (by decide) ?_
  refine am_Y.run (k := 0) (pc' := 168) (lv' := [(1, .int (0 : Int32)), (0, .ref 129)]) (st' := []) (h' := ih178) rfl ?_
  refine am_Y.run (k := 4) (pc' := 154) (lv' := [(1, .int ((0 : Int32) + (1 : Int32))), (0, .ref 129)]) (st' := [.int (12 : Int32), .int ((0 : Int32) + (1 : Int32))]) (h' := ih178) rfl ?_
  refine am_Y.br (c := (12 : Int32) ≤ ((0 : Int32) + (1 : Int32))) _ (t := 174) (u := 157) (lv' := [(1, .int (1 : Int32)), (0, .ref 129)]) (st' := []) (h' := ih178) rfl (fun hc => ?_) (fun hc => ?_)
  · exact absurd hc (by decide)
  refine am_Y.run (k := 6) (pc' := 167) (lv' := [(1, .int (1 : Int32)), (0, .ref 129)]) (st' := [.int (10 : Int32), .int ((108 : Int32) + (1 : Int32)), .ref 130]) (h' := ih178) rfl ?_
  refine am_Y.iast (a := 125) (n := 3826) rfl rfl (by decide) ?_
  refine am_Y.run (k := 0) (pc' := 168) (lv' := [(1, .int (1 : Int32)), (0, .ref 129)]) (st' := []) (h' := ih179) rfl ?_
  refine am_Y.run (k := 4) (pc' := 154) (lv' := [(1, .int ((1 : Int32) + (1 : Int32))), (0, .ref 129)]) (st' := [.int (12 : Int32), .int ((1 : Int32) + (1 : Int32))]) (h' := ih179) rfl ?_
  refine am_Y.br (c := (12 : Int32) ≤ ((1 : Int32) + (1 : Int32))) _ (t := 174) (u := 157) (lv' := [(1, .int (2 : Int32)), (0, .ref 129)]) (st' := []) (h' := ih179) rfl (fun hc => ?_) (fun hc => ?_)
  · exact absurd hc (by decide)
  refine am_Y.run (k := 6) (pc' := 167) (lv' := [(1, .int (2 : Int32)), (0, .ref 129)]) (st' := [.int (10 : Int32), .int ((108 : Int32) + (2 : Int32)), .ref 130]) (h' := ih179) rfl ?_
  refine am_Y.iast (a := 125) (n := 3826) rfl rfl (by decide) ?_
  refine am_Y.run (k := 0) (pc' := 168) (lv' := [(1, .int (2 : Int32)), (0, .ref 129)]) (st' := []) (h' := ih180) rfl ?_
  refine am_Y.run (k := 4) (pc' := 154) (lv' := [(1, .int ((2 : Int32) + (1 : Int32))), (0, .ref 129)]) (st' := [.int (12 : Int32), .int ((2 : Int32) + (1 : Int32))]) (h' := ih180) rfl ?_
  refine am_Y.br (c := (12 : Int32) ≤ ((2 : Int32) + (1 : Int32))) _ (t := 174) (u := 157) (lv' := [(1, .int (3 : Int32)), (0, .ref 129)]) (st' := []) (h' := ih180) rfl (fun hc => ?_) (fun hc => ?_)
  · exact absurd hc (by decide)
  refine am_Y.run (k := 6) (pc' := 167) (lv' := [(1, .int (3 : Int32)), (0, .ref 129)]) (st' := [.int (10 : Int32), .int ((108 : Int32) + (3 : Int32)), .ref 130]) (h' := ih180) rfl ?_
  refine am_Y.iast (a := 125) (n := 3826) rfl rfl (by decide) ?_
  refine am_Y.run (k := 0) (pc' := 168) (lv' := [(1, .int (3 : Int32)), (0, .ref 129)]) (st' := []) (h' := ih181) rfl ?_
  refine am_Y.run (k := 4) (pc' := 154) (lv' := [(1, .int ((3 : Int32) + (1 : Int32))), (0, .ref 129)]) (st' := [.int (12 : Int32), .int ((3 : Int32) + (1 : Int32))]) (h' := ih181) rfl ?_
  refine am_Y.br (c := (12 : Int32) ≤ ((3 : Int32) + (1 : Int32))) _ (t := 174) (u := 157) (lv' := [(1, .int (4 : Int32)), (0, .ref 129)]) (st' := []) (h' := ih181) rfl (fun hc => ?_) (fun hc => ?_)
  · exact absurd hc (by decide)
  refine am_Y.run (k := 6) (pc' := 167) (lv' := [(1, .int (4 : Int32)), (0, .ref 129)]) (st' := [.int (10 : Int32), .int ((108 : Int32) + (4 : Int32)), .ref 130]) (h' := ih181) rfl ?_
  refine am_Y.iast (a := 125) (n := 3826) rfl rfl (by decide) ?_
  refine am_Y.run (k := 0) (pc' := 168) (lv' := [(1, .int (4 : Int32)), (0, .ref 129)]) (st' := []) (h' := ih182) rfl ?_
  refine am_Y.run (k := 4) (pc' := 154) (lv' := [(1, .int ((4 : Int32) + (1 : Int32))), (0, .ref 129)]) (st' := [.int (12 : Int32), .int ((4 : Int32) + (1 : Int32))]) (h' := ih182) rfl ?_
  refine am_Y.br (c := (12 : Int32) ≤ ((4 : Int32) + (1 : Int32))) _ (t := 174) (u := 157) (lv' := [(1, .int (5 : Int32)), (0, .ref 129)]) (st' := []) (h' := ih182) rfl (fun hc => ?_) (fun hc => ?_)
  · exact absurd hc (by decide)
  refine am_Y.run (k := 6) (pc' := 167) (lv' := [(1, .int (5 : Int32)), (0, .ref 129)]) (st' := [.int (10 : Int32), .int ((108 : Int32) + (5 : Int32)), .ref 130]) (h' := ih182) rfl ?_
  refine am_Y.iast (a := 125) (n := 3826) rfl rfl (by decide) ?_
  refine am_Y.run (k := 0) (pc' := 168) (lv' := [(1, .int (5 : Int32)), (0, .ref 129)]) (st' := []) (h' := ih183) rfl ?_
  refine am_Y.run (k := 4) (pc' := 154) (lv' := [(1, .int ((5 : Int32) + (1 : Int32))), (0, .ref 129)]) (st' := [.int (12 : Int32), .int ((5 : Int32) + (1 : Int32))]) (h' := ih183) rfl ?_
  refine am_Y.br (c := (12 : Int32) ≤ ((5 : Int32) + (1 : Int32))) _ (t := 174) (u := 157) (lv' := [(1, .int (6 : Int32)), (0, .ref 129)]) (st' := []) (h' := ih183) rfl (fun hc => ?_) (fun hc => ?_)
  · exact absurd hc (by decide)
  refine am_Y.run (k := 6) (pc' := 167) (lv' := [(1, .int (6 : Int32)), (0, .ref 129)]) (st' := [.int (10 : Int32), .int ((108 : Int32) + (6 : Int32)), .ref 130]) (h' := ih183) rfl ?_
  refine am_Y.iast (a := 125) (n := 3826) rfl rfl (by decide) ?_
  refine am_Y.run (k := 0) (pc' := 168) (lv' := [(1, .int (6 : Int32)), (0, .ref 129)]) (st' := []) (h' := ih184) rfl ?_
  refine am_Y.run (k := 4) (pc' := 154) (lv' := [(1, .int ((6 : Int32) + (1 : Int32))), (0, .ref 129)]) (st' := [.int (12 : Int32), .int ((6 : Int32) + (1 : Int32))]) (h' := ih184) rfl ?_
  refine am_Y.br (c := (12 : Int32) ≤ ((6 : Int32) + (1 : Int32))) _ (t := 174) (u := 157) (lv' := [(1, .int (7 : Int32)), (0, .ref 129)]) (st' := []) (h' := ih184) rfl (fun hc => ?_) (fun hc => ?_)
  · exact absurd hc (by decide)
  refine am_Y.run (k := 6) (pc' := 167) (lv' := [(1, .int (7 : Int32)), (0, .ref 129)]) (st' := [.int (10 : Int32), .int ((108 : Int32) + (7 : Int32)), .ref 130]) (h' := ih184) rfl ?_
  refine am_Y.iast (a := 125) (n := 3826) rfl rfl (by decide) ?_
  refine am_Y.run (k := 0) (pc' := 168) (lv' := [(1, .int (7 : Int32)), (0, .ref 129)]) (st' := []) (h' := ih185) rfl ?_
  refine am_Y.run (k := 4) (pc' := 154) (lv' := [(1, .int ((7 : Int32) + (1 : Int32))), (0, .ref 129)]) (st' := [.int (12 : Int32), .int ((7 : Int32) + (1 : Int32))]) (h' := ih185) rfl ?_
  refine am_Y.br (c := (12 : Int32) ≤ ((7 : Int32) + (1 : Int32))) _ (t := 174) (u := 157) (lv' := [(1, .int (8 : Int32)), (0, .ref 129)]) (st' := []) (h' := ih185) rfl (fun hc => ?_) (fun hc => ?_)
  · exact absurd hc (by decide)
  refine am_Y.run (k := 6) (pc' := 167) (lv' := [(1, .int (8 : Int32)), (0, .ref 129)]) (st' := [.int (10 : Int32), .int ((108 : Int32) + (8 : Int32)), .ref 130]) (h' := ih185) rfl ?_
  refine am_Y.iast (a := 125) (n := 3826) rfl rfl (by decide) ?_
  refine am_Y.run (k := 0) (pc' := 168) (lv' := [(1, .int (8 : Int32)), (0, .ref 129)]) (st' := []) (h' := ih186) rfl ?_
  refine am_Y.run (k := 4) (pc' := 154) (lv' := [(1, .int ((8 : Int32) + (1 : Int32))), (0, .ref 129)]) (st' := [.int (12 : Int32), .int ((8 : Int32) + (1 : Int32))]) (h' := ih186) rfl ?_
  refine am_Y.br (c := (12 : Int32) ≤ ((8 : Int32) + (1 : Int32))) _ (t := 174) (u := 157) (lv' := [(1, .int (9 : Int32)), (0, .ref 129)]) (st' := []) (h' := ih186) rfl (fun hc => ?_) (fun hc => ?_)
  · exact absurd hc (by decide)
  refine am_Y.run (k := 6) (pc' := 167) (lv' := [(1, .int (9 : Int32)), (0, .ref 129)]) (st' := [.int (10 : Int32), .int ((108 : Int32) + (9 : Int32)), .ref 130]) (h' := ih186) rfl ?_
  refine am_Y.iast (a := 125) (n := 3826) rfl rfl (by decide) ?_
  refine am_Y.run (k := 0) (pc' := 168) (lv' := [(1, .int (9 : Int32)), (0, .ref 129)]) (st' := []) (h' := ih187) rfl ?_
  refine am_Y.run (k := 4) (pc' := 154) (lv' := [(1, .int ((9 : Int32) + (1 : Int32))), (0, .ref 129)]) (st' := [.int (12 : Int32), .int ((9 : Int32) + (1 : Int32))]) (h' := ih187) rfl ?_
  refine am_Y.br (c := (12 : Int32) ≤ ((9 : Int32) + (1 : Int32))) _ (t := 174) (u := 157) (lv' := [(1, .int (10 : Int32)), (0, .ref 129)]) (st' := []) (h' := ih187) rfl (fun hc => ?_) (fun hc => ?_)
  · exact absurd hc (by decide)
  refine am_Y.run (k := 6) (pc' := 167) (lv' := [(1, .int (10 : Int32)), (0, .ref 129)]) (st' := [.int (10 : Int32), .int ((108 : Int32) + (10 : Int32)), .ref 130]) (h' := ih187) rfl ?_
  refine am_Y.iast (a := 125) (n := 3826) rfl rfl (by decide) ?_
  refine am_Y.run (k := 0) (pc' := 168) (lv' := [(1, .int (10 : Int32)), (0, .ref 129)]) (st' := []) (h' := ih188) rfl ?_
  refine am_Y.run (k := 4) (pc' := 154) (lv' := [(1, .int ((10 : Int32) + (1 : Int32))), (0, .ref 129)]) (st' := [.int (12 : Int32), .int ((10 : Int32) + (1 : Int32))]) (h' := ih188) rfl ?_
  refine am_Y.br (c := (12 : Int32) ≤ ((10 : Int32) + (1 : Int32))) _ (t := 174) (u := 157) (lv' := [(1, .int (11 : Int32)), (0, .ref 129)]) (st' := []) (h' := ih188) rfl (fun hc => ?_) (fun hc => ?_)
  · exact absurd hc (by decide)
  refine am_Y.run (k := 6) (pc' := 167) (lv' := [(1, .int (11 : Int32)), (0, .ref 129)]) (st' := [.int (10 : Int32), .int ((108 : Int32) + (11 : Int32)), .ref 130]) (h' := ih188) rfl ?_
  refine am_Y.iast (a := 125) (n := 3826) rfl rfl (by decide) ?_
  refine am_Y.run (k := 0) (pc' := 168) (lv' := [(1, .int (11 : Int32)), (0, .ref 129)]) (st' := []) (h' := ih189) rfl ?_
  refine am_Y.run (k := 4) (pc' := 154) (lv' := [(1, .int ((11 : Int32) + (1 : Int32))), (0, .ref 129)]) (st' := [.int (12 : Int32), .int ((11 : Int32) + (1 : Int32))]) (h' := ih189) rfl ?_
  refine am_Y.br (c := (12 : Int32) ≤ ((11 : Int32) + (1 : Int32))) _ (t := 174) (u := 157) (lv' := [(1, .int (12 : Int32)), (0, .ref 129)]) (st' := []) (h' := ih189) rfl (fun hc => ?_) (fun hc => ?_)
  rotate_left
  · exact absurd (by decide) hc
  refine am_Y.run (k := 4) (pc' := 182) (lv' := [(1, .int (12 : Int32)), (0, .ref 129)]) (st' := [.ref 131, .ref 130]) (h' := ih189) rfl ?_
  refine am_Y.run (k := 0) (pc' := 182) (lv' := [(1, .int (12 : Int32)), (0, .ref 129)]) (st' := [.ref 131, .ref 130]) (h' := hp im1) rfl ?_
  refine am_Y.call0 (M' := am_M101) (as := [.ref 130, .ref 131]) (rest := []) (d' := 0) rfl (by omega) rfl rfl (t_m_copy_130_131 N im1 im2 hm) ?_
  exact am_Y.ret rfl
set_option maxRecDepth 100000 in
theorem t_start {S : Nat × (Nat → Int32)} (N : Nat) (im2 : Mem) (hm : f_m_copy_130_131 N im1 = some im2) (r : Int32) (M' : Mem) (h : f_law S N im2 = some (r, M')) : am_Y S 68 139 18715 am_ML 0 [(0, .ref 0)] [] [] (some (.int r)) (hp M') := by
  refine am_Y.make (cs := [.inr (9, [.null, .null, .null, .null, .null, .null, .null])]) (rest := []) (ds := 7) (len := 3) rfl rfl rfl ?_
  refine am_Y.run (k := 0) (pc' := 3) (lv' := [(0, .ref 0)]) (st' := [.ref 5]) (h' := ih1) rfl ?_
  refine am_Y.run (k := 1) (pc' := 4) (lv' := [(0, .ref 0)]) (st' := [.ref 5, .ref 5]) (h' := ih1) rfl ?_
  refine am_Y.call (M' := am_M0) (as := [.ref 5]) (rest := [.ref 5]) (d' := 3) (r1 := none) (h1 := ih146) rfl (by omega) rfl rfl (t_i23) ?_
  refine am_Y.run (k := 0) (pc' := 7) (lv' := [(0, .ref 0)]) (st' := [.ref 5]) (h' := ih146) rfl ?_
  refine am_Y.run (k := 1) (pc' := 8) (lv' := [(1, .ref 5), (0, .ref 0)]) (st' := []) (h' := ih146) rfl ?_
  refine am_Y.make (cs := [.inr (10, [.null, .null, .null, .null, .int (0 : Int32), .int (0 : Int32), .int (0 : Int32), .int (0 : Int32), .int (0 : Int32), .int (0 : Int32), .int (0 : Int32), .long (0 : Int64), .int (0 : Int32), .int (0 : Int32), .int (0 : Int32), .null, .null, .null, .null, .int (0 : Int32), .int (0 : Int32), .int (0 : Int32), .int (0 : Int32), .int (0 : Int32), .int (0 : Int32), .null, .null, .null, .int (0 : Int32), .int (0 : Int32), .null, .null, .null])]) (rest := []) (ds := 33) (len := 3) rfl rfl rfl ?_
  refine am_Y.run (k := 0) (pc' := 11) (lv' := [(1, .ref 5), (0, .ref 0)]) (st' := [.ref 129]) (h' := ih147) rfl ?_
  refine am_Y.run (k := 1) (pc' := 12) (lv' := [(1, .ref 5), (0, .ref 0)]) (st' := [.ref 129, .ref 129]) (h' := ih147) rfl ?_
  refine am_Y.call (M' := am_M1) (as := [.ref 129]) (rest := [.ref 129]) (d' := 1) (r1 := none) (h1 := hp im2) rfl (by omega) rfl rfl (t_iM N im2 hm) ?_
  refine am_Y.run (k := 1) (pc' := 16) (lv' := [(2, .ref 129), (1, .ref 5), (0, .ref 0)]) (st' := []) (h' := hp im2) rfl ?_
  refine am_Y.weak (lv2 := [(0, .ref 0), (1, .ref 5), (2, .ref 129)]) rfl rfl ⟨rfl, rfl, rfl, trivial⟩ ?_
  exact t_law N im2 r M' h
