/-! AM does the law as the function says. -/
set_option maxRecDepth 100000 in
theorem t_law {S : Nat × (Nat → Int32)} (N : Nat) (M : Mem) (r : Int32) (M' : Mem) (h : f_law S N M = some (r, M')) : am_Y S 68 0 0 am_ML 16 [(0, .ref 0), (1, .ref 5), (2, .ref 129)] [] (hp M) (some (.int r)) (hp M') := by
  rw [f_law] at h
  refine am_Y.run (k := 2) (pc' := 18) (lv' := [(3, .int (0 : Int32)), (0, .ref 0), (1, .ref 5), (2, .ref 129)]) (st' := []) (h' := hp M) rfl ?_
  refine am_Y.weak (lv2 := [(0, .ref 0), (1, .ref 5), (2, .ref 129), (3, .int (0 : Int32))]) rfl rfl ⟨rfl, rfl, rfl, rfl, trivial⟩ ?_
  exact t_law_18 N N (0 : Int32) M _ _ h
