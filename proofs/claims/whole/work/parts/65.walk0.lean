/-! AM does what the functions say. -/
theorem am_neT {x y : Int32} (z : Int) (h : ¬ x = y) (e : y.toInt = z) : ¬ x.toInt = z := fun q => h (Int32.toInt_inj.mp (q.trans e.symm))
set_option maxRecDepth 100000 in
theorem t_k_floorMod {S : Nat × (Nat → Int32)} (x0 : Int32) (x1 : Int32) (M : Mem) (r : Int32) (h : f_k_floorMod x0 x1 M = some r) : am_Y S 0 0 0 am_M240 0 [(0, .int x0), (1, .int x1)] [] (hp M) (some (.int r)) (hp M) := by
  rw [f_k_floorMod] at h
  refine am_Y.run (k := 2) (pc' := 2) (lv' := [(0, .int x0), (1, .int x1)]) (st' := [.int x1, .int x0]) (h' := hp M) rfl ?_
  obtain ⟨g, h⟩ := am_itn h
  refine am_Y.irm rfl g ?_
  refine am_Y.run (k := 4) (pc' := 7) (lv' := [(2, .int (x0 - x0 / x1 * x1)), (0, .int x0), (1, .int x1)]) (st' := [.int (x0 ^^^ x1)]) (h' := hp M) rfl ?_
  refine am_Y.br (c := (0 : Int32) ≤ (x0 ^^^ x1)) _ (t := 18) (u := 10) (lv' := [(2, .int (x0 - x0 / x1 * x1)), (0, .int x0), (1, .int x1)]) (st' := []) (h' := hp M) rfl (fun hc => ?_) (fun hc => ?_)
  · replace h := (if_pos hc).symm.trans h
    refine am_Y.run (k := 1) (pc' := 19) (lv' := [(2, .int (x0 - x0 / x1 * x1)), (0, .int x0), (1, .int x1)]) (st' := [.int (x0 - x0 / x1 * x1)]) (h' := hp M) rfl ?_
    obtain rfl := Option.some.inj h
    exact am_Y.ret rfl
  · replace h := (if_neg hc).symm.trans h
    refine am_Y.run (k := 1) (pc' := 11) (lv' := [(2, .int (x0 - x0 / x1 * x1)), (0, .int x0), (1, .int x1)]) (st' := [.int (x0 - x0 / x1 * x1)]) (h' := hp M) rfl ?_
    refine am_Y.br (c := (x0 - x0 / x1 * x1) = (0 : Int32)) _ (t := 18) (u := 14) (lv' := [(2, .int (x0 - x0 / x1 * x1)), (0, .int x0), (1, .int x1)]) (st' := []) (h' := hp M) rfl (fun hc => ?_) (fun hc => ?_)
    · replace h := (if_pos hc).symm.trans h
      refine am_Y.run (k := 1) (pc' := 19) (lv' := [(2, .int (x0 - x0 / x1 * x1)), (0, .int x0), (1, .int x1)]) (st' := [.int (x0 - x0 / x1 * x1)]) (h' := hp M) rfl ?_
      obtain rfl := Option.some.inj h
      exact am_Y.ret rfl
    · replace h := (if_neg hc).symm.trans h
      refine am_Y.run (k := 3) (pc' := 17) (lv' := [(2, .int (x0 - x0 / x1 * x1)), (0, .int x0), (1, .int x1)]) (st' := [.int ((x0 - x0 / x1 * x1) + x1)]) (h' := hp M) rfl ?_
      obtain rfl := Option.some.inj h
      exact am_Y.ret rfl
set_option maxRecDepth 100000 in
theorem t_w_within {S : Nat × (Nat → Int32)} (x0 : Int32) (x1 : Int32) (x2 : Int32) (M : Mem) (r : Int32) (h : f_w_within x0 x1 x2 M = r) : am_Y S 0 0 0 am_M102 0 [(0, .int x0), (1, .int x1), (2, .int x2)] [] (hp M) (some (.int r)) (hp M) := by
  rw [f_w_within] at h
  refine am_Y.run (k := 2) (pc' := 2) (lv' := [(0, .int x0), (1, .int x1), (2, .int x2)]) (st' := [.int x1, .int x0]) (h' := hp M) rfl ?_
  refine am_Y.br (c := x0 < x1) _ (t := 14) (u := 5) (lv' := [(0, .int x0), (1, .int x1), (2, .int x2)]) (st' := []) (h' := hp M) rfl (fun hc => ?_) (fun hc => ?_)
  · replace h := (if_pos hc).symm.trans h
    refine am_Y.run (k := 1) (pc' := 15) (lv' := [(0, .int x0), (1, .int x1), (2, .int x2)]) (st' := [.int (0 : Int32)]) (h' := hp M) rfl ?_
    subst h
    exact am_Y.ret rfl
  · replace h := (if_neg hc).symm.trans h
    refine am_Y.run (k := 2) (pc' := 7) (lv' := [(0, .int x0), (1, .int x1), (2, .int x2)]) (st' := [.int x2, .int x0]) (h' := hp M) rfl ?_
    refine am_Y.br (c := x2 < x0) _ (t := 14) (u := 10) (lv' := [(0, .int x0), (1, .int x1), (2, .int x2)]) (st' := []) (h' := hp M) rfl (fun hc => ?_) (fun hc => ?_)
    · replace h := (if_pos hc).symm.trans h
      refine am_Y.run (k := 1) (pc' := 15) (lv' := [(0, .int x0), (1, .int x1), (2, .int x2)]) (st' := [.int (0 : Int32)]) (h' := hp M) rfl ?_
      subst h
      exact am_Y.ret rfl
    · replace h := (if_neg hc).symm.trans h
      refine am_Y.run (k := 2) (pc' := 15) (lv' := [(0, .int x0), (1, .int x1), (2, .int x2)]) (st' := [.int (1 : Int32)]) (h' := hp M) rfl ?_
      subst h
      exact am_Y.ret rfl
set_option maxRecDepth 100000 in
theorem z_w_within (x0 : Int32) (x1 : Int32) (x2 : Int32) (M : Mem) : f_w_within x0 x1 x2 M = 0 ∨ f_w_within x0 x1 x2 M = 1 := by
  simp only [f_w_within]
  first | (repeat' split) <;> first | exact Or.inl rfl | exact Or.inr rfl | (simp; done) | (simp; done)
set_option maxRecDepth 100000 in
theorem t_k_max0 {S : Nat × (Nat → Int32)} (x0 : Int32) (x1 : Int32) (M : Mem) (r : Int32) (h : f_k_max0 x0 x1 M = r) : am_Y S 0 0 0 am_M246 0 [(0, .int x0), (1, .int x1)] [] (hp M) (some (.int r)) (hp M) := by
  rw [f_k_max0] at h
  refine am_Y.run (k := 2) (pc' := 2) (lv' := [(0, .int x0), (1, .int x1)]) (st' := [.int x1, .int x0]) (h' := hp M) rfl ?_
  refine am_Y.br (c := x0 < x1) _ (t := 9) (u := 5) (lv' := [(0, .int x0), (1, .int x1)]) (st' := []) (h' := hp M) rfl (fun hc => ?_) (fun hc => ?_)
  · replace h := (if_pos hc).symm.trans h
    refine am_Y.run (k := 1) (pc' := 10) (lv' := [(0, .int x0), (1, .int x1)]) (st' := [.int x1]) (h' := hp M) rfl ?_
    subst h
    exact am_Y.ret rfl
  · replace h := (if_neg hc).symm.trans h
    refine am_Y.run (k := 2) (pc' := 10) (lv' := [(0, .int x0), (1, .int x1)]) (st' := [.int x0]) (h' := hp M) rfl ?_
    subst h
    exact am_Y.ret rfl
set_option maxRecDepth 100000 in
theorem t_k_min0 {S : Nat × (Nat → Int32)} (x0 : Int32) (x1 : Int32) (M : Mem) (r : Int32) (h : f_k_min0 x0 x1 M = r) : am_Y S 0 0 0 am_M242 0 [(0, .int x0), (1, .int x1)] [] (hp M) (some (.int r)) (hp M) := by
  rw [f_k_min0] at h
  refine am_Y.run (k := 2) (pc' := 2) (lv' := [(0, .int x0), (1, .int x1)]) (st' := [.int x1, .int x0]) (h' := hp M) rfl ?_
  refine am_Y.br (c := x1 < x0) _ (t := 9) (u := 5) (lv' := [(0, .int x0), (1, .int x1)]) (st' := []) (h' := hp M) rfl (fun hc => ?_) (fun hc => ?_)
  · replace h := (if_pos hc).symm.trans h
    refine am_Y.run (k := 1) (pc' := 10) (lv' := [(0, .int x0), (1, .int x1)]) (st' := [.int x1]) (h' := hp M) rfl ?_
    subst h
    exact am_Y.ret rfl
  · replace h := (if_neg hc).symm.trans h
    refine am_Y.run (k := 2) (pc' := 10) (lv' := [(0, .int x0), (1, .int x1)]) (st' := [.int x0]) (h' := hp M) rfl ?_
    subst h
    exact am_Y.ret rfl
set_option maxRecDepth 100000 in
theorem t_k_min1 {S : Nat × (Nat → Int32)} (x0 : Int64) (x2 : Int64) (M : Mem) (r : Int64) (h : f_k_min1 x0 x2 M = r) : am_Y S 0 0 0 am_M299 0 [(0, .long x0), (2, .long x2)] [] (hp M) (some (.long r)) (hp M) := by
  rw [f_k_min1] at h
  refine am_Y.run (k := 3) (pc' := 3) (lv' := [(0, .long x0), (2, .long x2)]) (st' := [.int (lg_cmp x0 x2)]) (h' := hp M) rfl ?_
  refine am_Y.br (c := (0 : Int32) < (lg_cmp x0 x2)) _ (t := 10) (u := 6) (lv' := [(0, .long x0), (2, .long x2)]) (st' := []) (h' := hp M) rfl (fun hc => ?_) (fun hc => ?_)
  · replace h := (if_pos hc).symm.trans h
    refine am_Y.run (k := 1) (pc' := 11) (lv' := [(0, .long x0), (2, .long x2)]) (st' := [.long x2]) (h' := hp M) rfl ?_
    subst h
    exact am_Y.ret rfl
  · replace h := (if_neg hc).symm.trans h
    refine am_Y.run (k := 2) (pc' := 11) (lv' := [(0, .long x0), (2, .long x2)]) (st' := [.long x0]) (h' := hp M) rfl ?_
    subst h
    exact am_Y.ret rfl
set_option maxRecDepth 100000 in
theorem t_k_max1 {S : Nat × (Nat → Int32)} (x0 : Int64) (x2 : Int64) (M : Mem) (r : Int64) (h : f_k_max1 x0 x2 M = r) : am_Y S 0 0 0 am_M263 0 [(0, .long x0), (2, .long x2)] [] (hp M) (some (.long r)) (hp M) := by
  rw [f_k_max1] at h
  refine am_Y.run (k := 3) (pc' := 3) (lv' := [(0, .long x0), (2, .long x2)]) (st' := [.int (lg_cmp x0 x2)]) (h' := hp M) rfl ?_
  refine am_Y.br (c := (lg_cmp x0 x2) < (0 : Int32)) _ (t := 10) (u := 6) (lv' := [(0, .long x0), (2, .long x2)]) (st' := []) (h' := hp M) rfl (fun hc => ?_) (fun hc => ?_)
  · replace h := (if_pos hc).symm.trans h
    refine am_Y.run (k := 1) (pc' := 11) (lv' := [(0, .long x0), (2, .long x2)]) (st' := [.long x2]) (h' := hp M) rfl ?_
    subst h
    exact am_Y.ret rfl
  · replace h := (if_neg hc).symm.trans h
    refine am_Y.run (k := 2) (pc' := 11) (lv' := [(0, .long x0), (2, .long x2)]) (st' := [.long x0]) (h' := hp M) rfl ?_
    subst h
    exact am_Y.ret rfl
