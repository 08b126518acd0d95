/-! AM does what these few functions say. -/
theorem w_scr_cases {i : Int32} {a : Nat} (h : w_scr i = some a) : a = 113 ∨ a = 117 ∨ a = 121 ∨ a = 125 := by
  unfold w_scr at h
  repeat' split at h
  all_goals first | (cases h; simp; done) | cases h
theorem am_in_lt {i : Int32} {n : Nat} (g : am_in i n = true) : i.toNatClampNeg < n := Nat.not_le.mp fun q => am_in_iff g (Or.inr q)
section MAN
variable {S : Nat × (Nat → Int32)} {d mc ms : Nat} {X : am_Mth} {pc : Nat} {lv : am_L} {h hf : am_H} {r : Option Value}
theorem am_Y.cpy {a b n0 n1 k : Nat} {f g : Nat → Int32} (hat : am_at (am_code X) pc = some (.invokestatic k, 3)) (hcp : am_CP (am_oc X) k = some (7, 0, 0, 0)) (ha : am_nth h a = some (.inl (0, n0, .inl f))) (hb : am_nth h b = some (.inl (0, n1, .inl g))) (h0 : 66 ≤ n0) (h1 : 66 ≤ n1) (kk : am_Y S d mc ms X (pc + 3) lv [] (am_put h b (.inl (0, n1, .inl (va_cpy f g 0 0 66)))) r hf) : am_Y S d mc ms X pc lv [.int 66, .int 0, .ref (b + 5), .int 0, .ref (a + 5)] h r hf := by
  refine am_Y.one ?_ kk
  have c : (¬ (0 : Int32) < 0 ∧ ¬ (0 : Int32) < 0 ∧ ¬ (66 : Int32) < 0 ∧ (0 : Int32).toNatClampNeg + (66 : Int32).toNatClampNeg ≤ n0 ∧ (0 : Int32).toNatClampNeg + (66 : Int32).toNatClampNeg ≤ n1 ∧ True) := ⟨by decide, by decide, by decide, h0, h1, trivial⟩
  simp only [am_stp, hat, am_step, am_load, am_pure, am_read, am_store, am_jump, am_write, hcp, ha, hb]
  rw [if_pos c]
  rfl
theorem am_Y.alen {a n t : Nat} {x : (Nat → Int32) ⊕ (Nat → Int64) ⊕ (Nat → UInt32) ⊕ (Nat → UInt64) ⊕ (Nat → Option Nat)} {rest : List Value} (hat : am_at (am_code X) pc = some (.arraylength, 1)) (ha : am_nth h a = some (.inl (t, n, x))) (ht : Nat.ble (t + 1) 5 = true) (kk : am_Y S d mc ms X (pc + 1) lv (.int (Int32.ofNat n) :: rest) h r hf) : am_Y S d mc ms X pc lv (.ref (a + 5) :: rest) h r hf := by
  refine am_Y.one ?_ kk
  simp only [am_stp, hat, am_step, am_load, am_pure, am_read, ha, ht, cond_true]
theorem row_get (M : Mem) {k : Nat} (hk : k < 30) : am_nth (hp M) (11 + k) = some (.inl (0, 66, .inl (M.1 (16 + k)))) := by
  match k, hk with
  | 0, _ => rfl
  | 1, _ => rfl
  | 2, _ => rfl
  | 3, _ => rfl
  | 4, _ => rfl
  | 5, _ => rfl
  | 6, _ => rfl
  | 7, _ => rfl
  | 8, _ => rfl
  | 9, _ => rfl
  | 10, _ => rfl
  | 11, _ => rfl
  | 12, _ => rfl
  | 13, _ => rfl
  | 14, _ => rfl
  | 15, _ => rfl
  | 16, _ => rfl
  | 17, _ => rfl
  | 18, _ => rfl
  | 19, _ => rfl
  | 20, _ => rfl
  | 21, _ => rfl
  | 22, _ => rfl
  | 23, _ => rfl
  | 24, _ => rfl
  | 25, _ => rfl
  | 26, _ => rfl
  | 27, _ => rfl
  | 28, _ => rfl
  | 29, _ => rfl
  | k + 30, hk => omega
theorem row_put (M : Mem) (f : Nat → Int32) {k : Nat} (hk : k < 30) : am_put (hp M) (11 + k) (.inl (0, 66, .inl f)) = hp (sr M (16 + k) f) := by
  match k, hk with
  | 0, _ => rfl
  | 1, _ => rfl
  | 2, _ => rfl
  | 3, _ => rfl
  | 4, _ => rfl
  | 5, _ => rfl
  | 6, _ => rfl
  | 7, _ => rfl
  | 8, _ => rfl
  | 9, _ => rfl
  | 10, _ => rfl
  | 11, _ => rfl
  | 12, _ => rfl
  | 13, _ => rfl
  | 14, _ => rfl
  | 15, _ => rfl
  | 16, _ => rfl
  | 17, _ => rfl
  | 18, _ => rfl
  | 19, _ => rfl
  | 20, _ => rfl
  | 21, _ => rfl
  | 22, _ => rfl
  | 23, _ => rfl
  | 24, _ => rfl
  | 25, _ => rfl
  | 26, _ => rfl
  | 27, _ => rfl
  | 28, _ => rfl
  | 29, _ => rfl
  | k + 30, hk => omega
theorem kow_get (M : Mem) {k : Nat} (hk : k < 30) : am_nth (hp M) (58 + k) = some (.inl (0, 66, .inl (M.1 (63 + k)))) := by
  match k, hk with
  | 0, _ => rfl
  | 1, _ => rfl
  | 2, _ => rfl
  | 3, _ => rfl
  | 4, _ => rfl
  | 5, _ => rfl
  | 6, _ => rfl
  | 7, _ => rfl
  | 8, _ => rfl
  | 9, _ => rfl
  | 10, _ => rfl
  | 11, _ => rfl
  | 12, _ => rfl
  | 13, _ => rfl
  | 14, _ => rfl
  | 15, _ => rfl
  | 16, _ => rfl
  | 17, _ => rfl
  | 18, _ => rfl
  | 19, _ => rfl
  | 20, _ => rfl
  | 21, _ => rfl
  | 22, _ => rfl
  | 23, _ => rfl
  | 24, _ => rfl
  | 25, _ => rfl
  | 26, _ => rfl
  | 27, _ => rfl
  | 28, _ => rfl
  | 29, _ => rfl
  | k + 30, hk => omega
theorem kow_put (M : Mem) (f : Nat → Int32) {k : Nat} (hk : k < 30) : am_put (hp M) (58 + k) (.inl (0, 66, .inl f)) = hp (sr M (63 + k) f) := by
  match k, hk with
  | 0, _ => rfl
  | 1, _ => rfl
  | 2, _ => rfl
  | 3, _ => rfl
  | 4, _ => rfl
  | 5, _ => rfl
  | 6, _ => rfl
  | 7, _ => rfl
  | 8, _ => rfl
  | 9, _ => rfl
  | 10, _ => rfl
  | 11, _ => rfl
  | 12, _ => rfl
  | 13, _ => rfl
  | 14, _ => rfl
  | 15, _ => rfl
  | 16, _ => rfl
  | 17, _ => rfl
  | 18, _ => rfl
  | 19, _ => rfl
  | 20, _ => rfl
  | 21, _ => rfl
  | 22, _ => rfl
  | 23, _ => rfl
  | 24, _ => rfl
  | 25, _ => rfl
  | 26, _ => rfl
  | 27, _ => rfl
  | 28, _ => rfl
  | 29, _ => rfl
  | k + 30, hk => omega
theorem t_w_scriptAt_s (i : Int32) (M : Mem) {a : Nat} (hs : w_scr i = some a) : am_Y S 1 0 0 am_M110 0 [(0, .ref 5), (1, .int i)] [] (hp M) (some (.ref a)) (hp M) := by
  have key : ∀ (j : Int32) (a : Nat), (j = 0 ∧ a = 113) ∨ (j = 1 ∧ a = 117) ∨ (j = 2 ∧ a = 121) ∨ (j = 3 ∧ a = 125) → am_Y S 1 0 0 am_M110 0 [(0, .ref 5), (1, .int j)] [] (hp M) (some (.ref a)) (hp M) := by
    intro j a hj
    rcases hj with ⟨rfl, rfl⟩ | ⟨rfl, rfl⟩ | ⟨rfl, rfl⟩ | ⟨rfl, rfl⟩
    · refine am_Y.run (k := 3) (pc' := 3) (lv' := [(0, .ref 5), (1, .int 0)]) (st' := [.int 3, .int 0, .int 0]) (h' := hp M) rfl ?_
      refine am_Y.call0 (M' := am_M102) (as := [.int 0, .int 0, .int 3]) (rest := []) (d' := 0) rfl (by omega) rfl rfl (t_w_within 0 0 3 M 1 rfl) ?_
      refine am_Y.run (k := 6) (pc' := 19) (lv' := [(0, .ref 5), (1, .int 0)]) (st' := [.ref 113]) (h' := hp M) rfl ?_
      exact am_Y.ret rfl
    · refine am_Y.run (k := 3) (pc' := 3) (lv' := [(0, .ref 5), (1, .int 1)]) (st' := [.int 3, .int 0, .int 1]) (h' := hp M) rfl ?_
      refine am_Y.call0 (M' := am_M102) (as := [.int 1, .int 0, .int 3]) (rest := []) (d' := 0) rfl (by omega) rfl rfl (t_w_within 1 0 3 M 1 rfl) ?_
      refine am_Y.run (k := 6) (pc' := 19) (lv' := [(0, .ref 5), (1, .int 1)]) (st' := [.ref 117]) (h' := hp M) rfl ?_
      exact am_Y.ret rfl
    · refine am_Y.run (k := 3) (pc' := 3) (lv' := [(0, .ref 5), (1, .int 2)]) (st' := [.int 3, .int 0, .int 2]) (h' := hp M) rfl ?_
      refine am_Y.call0 (M' := am_M102) (as := [.int 2, .int 0, .int 3]) (rest := []) (d' := 0) rfl (by omega) rfl rfl (t_w_within 2 0 3 M 1 rfl) ?_
      refine am_Y.run (k := 6) (pc' := 19) (lv' := [(0, .ref 5), (1, .int 2)]) (st' := [.ref 121]) (h' := hp M) rfl ?_
      exact am_Y.ret rfl
    · refine am_Y.run (k := 3) (pc' := 3) (lv' := [(0, .ref 5), (1, .int 3)]) (st' := [.int 3, .int 0, .int 3]) (h' := hp M) rfl ?_
      refine am_Y.call0 (M' := am_M102) (as := [.int 3, .int 0, .int 3]) (rest := []) (d' := 0) rfl (by omega) rfl rfl (t_w_within 3 0 3 M 1 rfl) ?_
      refine am_Y.run (k := 6) (pc' := 19) (lv' := [(0, .ref 5), (1, .int 3)]) (st' := [.ref 125]) (h' := hp M) rfl ?_
      exact am_Y.ret rfl
  refine key i a ?_
  unfold w_scr at hs
  split at hs
  · cases hs; exact Or.inl ⟨by assumption, rfl⟩
  · split at hs
    · cases hs; exact Or.inr (Or.inl ⟨by assumption, rfl⟩)
    · split at hs
      · cases hs; exact Or.inr (Or.inr (Or.inl ⟨by assumption, rfl⟩))
      · split at hs
        · cases hs; exact Or.inr (Or.inr (Or.inr ⟨by assumption, rfl⟩))
        · cases hs
theorem am_i03 {i : Int32} (h0 : ¬ i < 0) (h1 : ¬ 3 < i) : i = 0 ∨ i = 1 ∨ i = 2 ∨ i = 3 := by
  obtain ⟨j, hj, rfl⟩ := nI_of2 (M := 3) (n := 3) rfl h0 (Int32.not_lt.mp h1)
  match j, hj with
  | 0, _ => exact Or.inl rfl
  | 1, _ => exact Or.inr (Or.inl rfl)
  | 2, _ => exact Or.inr (Or.inr (Or.inl rfl))
  | 3, _ => exact Or.inr (Or.inr (Or.inr rfl))
  | j + 4, hj => omega
theorem t_w_scriptAt_n (i : Int32) (M : Mem) (hs : w_scr i = none) : am_Y S 1 0 0 am_M110 0 [(0, .ref 5), (1, .int i)] [] (hp M) (some .null) (hp M) := by
  have hw : f_w_within i 0 3 M = 0 := by
    unfold f_w_within
    split
    · rfl
    · rename_i h0
      split
      · rfl
      · rename_i h1
        rcases am_i03 h0 h1 with rfl | rfl | rfl | rfl <;> cases hs
  refine am_Y.run (k := 3) (pc' := 3) (lv' := [(0, .ref 5), (1, .int i)]) (st' := [.int 3, .int 0, .int i]) (h' := hp M) rfl ?_
  refine am_Y.call0 (M' := am_M102) (as := [.int i, .int 0, .int 3]) (rest := []) (d' := 0) rfl (by omega) rfl rfl (t_w_within i 0 3 M 0 hw) ?_
  refine am_Y.run (k := 2) (pc' := 19) (lv' := [(0, .ref 5), (1, .int i)]) (st' := [.null]) (h' := hp M) rfl ?_
  exact am_Y.ret rfl
theorem t_s_keep (M M' : Mem) (h : f_s_keep M = some M') : am_Y S 1 0 0 am_M230 0 [(0, .ref 14), (1, .ref 12)] [] (hp M) none (hp M') := by
  rw [f_s_keep] at h
  obtain ⟨q, e_q, h⟩ := Option.bind_eq_some_iff.mp h
  refine am_Y.run (k := 7) (pc' := 12) (lv' := [(0, .ref 14), (1, .ref 12)]) (st' := [.int 30, .int (gi M 14 1), .ref 15, .int 0, .ref 12]) (h' := hp M) rfl ?_
  refine am_Y.call0 (M' := am_M240) (as := [.int (gi M 14 1), .int 30]) (rest := [.ref 15, .int 0, .ref 12]) (d' := 0) rfl (by omega) rfl rfl (t_k_floorMod (gi M 14 1) 30 M q e_q) ?_
  obtain ⟨g, h⟩ := am_itg h
  refine am_Y.aald (a := 10) (n := 30) (t := 4) (f := fun i => if i < 30 then some (16 + i) else none) rfl rfl rfl g ?_
  have hk := am_in_lt g
  generalize q.toNatClampNeg = k at hk h ⊢
  try dsimp only
  rw [if_pos hk, show 16 + k = (11 + k) + 5 by omega]
  refine am_Y.run (k := 2) (pc' := 19) (lv' := [(0, .ref 14), (1, .ref 12)]) (st' := [.int 66, .int 0, .ref ((11 + k) + 5), .int 0, .ref 12]) (h' := hp M) rfl ?_
  refine am_Y.cpy (a := 7) (b := 11 + k) rfl rfl rfl (row_get M hk) (by decide) (by decide) ?_
  rw [row_put M _ hk]
  obtain ⟨q2, e_q2, h⟩ := Option.bind_eq_some_iff.mp h
  refine am_Y.run (k := 6) (pc' := 31) (lv' := [(0, .ref 14), (1, .ref 12)]) (st' := [.int 30, .int (gi (f_s_row M k) 14 1 + 1), .ref 14]) (h' := hp (f_s_row M k)) rfl ?_
  refine am_Y.call0 (M' := am_M240) (as := [.int (gi (f_s_row M k) 14 1 + 1), .int 30]) (rest := [.ref 14]) (d' := 0) rfl (by omega) rfl rfl (t_k_floorMod _ 30 (f_s_row M k) q2 e_q2) ?_
  refine am_Y.run (k := 7) (pc' := 46) (lv' := [(0, .ref 14), (1, .ref 12)]) (st' := [.int 30, .int (gi (si (f_s_row M k) 14 1 q2) 14 2 + 1), .ref 14]) (h' := hp (si (f_s_row M k) 14 1 q2)) rfl ?_
  refine am_Y.call0 (M' := am_M242) (as := [.int (gi (si (f_s_row M k) 14 1 q2) 14 2 + 1), .int 30]) (rest := [.ref 14]) (d' := 0) rfl (by omega) rfl rfl (t_k_min0 _ 30 (si (f_s_row M k) 14 1 q2) _ rfl) ?_
  cases h
  refine am_Y.run (k := 1) (pc' := 52) (lv' := [(0, .ref 14), (1, .ref 12)]) (st' := []) (h' := hp (si (si (f_s_row M k) 14 1 q2) 14 2 (f_k_min0 (gi (si (f_s_row M k) 14 1 q2) 14 2 + 1) 30 (si (f_s_row M k) 14 1 q2)))) rfl ?_
  exact am_Y.ret rfl
theorem t_s_load (M : Mem) {k : Nat} (hk : k < 30) : am_Y S 1 0 0 am_M241 0 [(0, .ref 11), (1, .ref ((11 + k) + 5))] [] (hp M) none (hp (f_s_load M k)) := by
  refine am_Y.run (k := 6) (pc' := 8) (lv' := [(0, .ref 11), (1, .ref ((11 + k) + 5))]) (st' := [.ref ((11 + k) + 5), .int 0, .ref 12, .int 0, .ref ((11 + k) + 5)]) (h' := hp M) rfl ?_
  refine am_Y.alen (a := 11 + k) rfl (row_get M hk) rfl ?_
  refine am_Y.run (k := 1) (pc' := 11) (lv' := [(0, .ref 11), (1, .ref ((11 + k) + 5))]) (st' := [.int 66, .int 66, .int 0, .ref 12, .int 0, .ref ((11 + k) + 5)]) (h' := hp M) rfl ?_
  refine am_Y.call0 (M' := am_M242) (as := [.int 66, .int 66]) (rest := [.int 0, .ref 12, .int 0, .ref ((11 + k) + 5)]) (d' := 0) rfl (by omega) rfl rfl (t_k_min0 66 66 M 66 rfl) ?_
  refine am_Y.cpy (a := 11 + k) (b := 7) rfl rfl (row_get M hk) rfl (by decide) (by decide) ?_
  refine am_Y.run (k := 0) (pc' := 17) (lv' := [(0, .ref 11), (1, .ref ((11 + k) + 5))]) (st' := []) (h' := hp (f_s_load M k)) rfl ?_
  exact am_Y.ret rfl
theorem t_s_takeBack (M : Mem) (r : Int32) (M' : Mem) (h : f_s_takeBack M = some (r, M')) : am_Y S 2 0 0 am_M139 0 [(0, .ref 14), (1, .ref 11)] [] (hp M) (some (.int r)) (hp M') := by
  rw [f_s_takeBack] at h
  refine am_Y.run (k := 2) (pc' := 4) (lv' := [(0, .ref 14), (1, .ref 11)]) (st' := [.int (gi M 14 2)]) (h' := hp M) rfl ?_
  refine am_Y.br (c := 0 < gi M 14 2) _ (t := 9) (u := 7) (lv' := [(0, .ref 14), (1, .ref 11)]) (st' := []) (h' := hp M) rfl (fun hc => ?_) (fun hc => ?_)
  · replace h := (if_pos hc).symm.trans h
    obtain ⟨q, e_q, h⟩ := Option.bind_eq_some_iff.mp h
    refine am_Y.run (k := 6) (pc' := 18) (lv' := [(0, .ref 14), (1, .ref 11)]) (st' := [.int 30, .int (gi M 14 1 - 1), .ref 14]) (h' := hp M) rfl ?_
    refine am_Y.call0 (M' := am_M240) (as := [.int (gi M 14 1 - 1), .int 30]) (rest := [.ref 14]) (d' := 0) rfl (by omega) rfl rfl (t_k_floorMod _ 30 M q e_q) ?_
    obtain ⟨g, h⟩ := am_itg h
    refine am_Y.run (k := 6) (pc' := 33) (lv' := [(0, .ref 14), (1, .ref 11)]) (st' := [.int (gi (si M 14 1 q) 14 1), .ref 15, .ref 11]) (h' := hp (si M 14 1 q)) rfl ?_
    refine am_Y.aald (a := 10) (n := 30) (t := 4) (f := fun i => if i < 30 then some (16 + i) else none) rfl rfl rfl g ?_
    have hk := am_in_lt g
    generalize hk0 : (gi (si M 14 1 q) 14 1).toNatClampNeg = k at hk h ⊢
    try dsimp only
    rw [if_pos hk, show 16 + k = (11 + k) + 5 by omega]
    refine am_Y.call0 (M' := am_M241) (as := [.ref 11, .ref ((11 + k) + 5)]) (rest := []) (d' := 1) rfl (by omega) rfl rfl (t_s_load (si M 14 1 q) hk) ?_
    cases h
    refine am_Y.run (k := 7) (pc' := 48) (lv' := [(0, .ref 14), (1, .ref 11)]) (st' := [.int 1]) (h' := hp (si (f_s_load (si M 14 1 q) k) 14 2 (gi (f_s_load (si M 14 1 q) k) 14 2 - 1))) rfl ?_
    exact am_Y.ret rfl
  · replace h := (if_neg hc).symm.trans h
    cases h
    refine am_Y.run (k := 1) (pc' := 8) (lv' := [(0, .ref 14), (1, .ref 11)]) (st' := [.int 0]) (h' := hp M) rfl ?_
    exact am_Y.ret rfl
theorem t_s_rows_14 (M : Mem) {hf : am_H} (fin : am_Y S 0 0 0 am_M266 33 [(0, .ref 14), (1, .ref 61)] [] (hp (f_s_rows M 63 16 30)) none hf) : ∀ n i : Nat, i + n = 30 → am_Y S 0 0 0 am_M266 2 [(2, .int (nI i)), (0, .ref 14), (1, .ref 61)] [] (hp (f_s_rows M 63 16 i)) none hf := by
  intro n
  induction n with
  | zero =>
    intro i hi
    obtain rfl : i = 30 := by omega
    refine am_Y.run (k := 3) (pc' := 33) (lv' := [(2, .int 30), (0, .ref 14), (1, .ref 61)]) (st' := []) (h' := hp (f_s_rows M 63 16 30)) rfl ?_
    exact am_Y.weak (lv2 := [(0, .ref 14), (1, .ref 61)]) rfl rfl ⟨rfl, rfl, trivial⟩ fin
  | succ n ih =>
    intro i hi
    have hk : i < 30 := by omega
    have g : am_in (nI i) 30 = true := by
      unfold am_in
      rw [decide_eq_false (nI_pos (by omega)), nI_clamp (by omega)]
      exact Nat.ble_eq.mpr hk
    refine am_Y.run (k := 2) (pc' := 5) (lv' := [(2, .int (nI i)), (0, .ref 14), (1, .ref 61)]) (st' := [.int 30, .int (nI i)]) (h' := hp (f_s_rows M 63 16 i)) rfl ?_
    refine am_Y.br (c := 30 ≤ nI i) _ (t := 33) (u := 8) (lv' := [(2, .int (nI i)), (0, .ref 14), (1, .ref 61)]) (st' := []) (h' := hp (f_s_rows M 63 16 i)) rfl (fun hc => absurd hc (nI_ge hk (by decide))) (fun hc => ?_)
    refine am_Y.run (k := 3) (pc' := 13) (lv' := [(2, .int (nI i)), (0, .ref 14), (1, .ref 61)]) (st' := [.int (nI i), .ref 62]) (h' := hp (f_s_rows M 63 16 i)) rfl ?_
    refine am_Y.aald (a := 57) (n := 30) (t := 4) (f := fun i => if i < 30 then some (63 + i) else none) rfl rfl rfl g ?_
    try dsimp only
    rw [nI_clamp (by omega), if_pos hk, show 63 + i = (58 + i) + 5 by omega]
    refine am_Y.run (k := 4) (pc' := 20) (lv' := [(2, .int (nI i)), (0, .ref 14), (1, .ref 61)]) (st' := [.int (nI i), .ref 15, .int 0, .ref ((58 + i) + 5)]) (h' := hp (f_s_rows M 63 16 i)) rfl ?_
    refine am_Y.aald (a := 10) (n := 30) (t := 4) (f := fun i => if i < 30 then some (16 + i) else none) rfl rfl rfl g ?_
    try dsimp only
    rw [nI_clamp (by omega), if_pos hk, show 16 + i = (11 + i) + 5 by omega]
    refine am_Y.run (k := 2) (pc' := 24) (lv' := [(2, .int (nI i)), (0, .ref 14), (1, .ref 61)]) (st' := [.int 66, .int 0, .ref ((11 + i) + 5), .int 0, .ref ((58 + i) + 5)]) (h' := hp (f_s_rows M 63 16 i)) rfl ?_
    refine am_Y.cpy (a := 58 + i) (b := 11 + i) rfl rfl (kow_get _ hk) (row_get _ hk) (by decide) (by decide) ?_
    rw [row_put _ _ hk]
    refine am_Y.run (k := 2) (pc' := 2) (lv' := [(2, .int (nI i + 1)), (0, .ref 14), (1, .ref 61)]) (st' := []) (h' := hp (f_s_rows M 63 16 (i + 1))) rfl ?_
    rw [nI_1]
    exact ih (i + 1) (by omega)
theorem t_s_copyFrom_14_61 (N : Nat) (M M' : Mem) (h : f_s_copyFrom_14_61 N M = some M') : am_Y S 0 0 0 am_M266 0 [(0, .ref 14), (1, .ref 61)] [] (hp M) none (hp M') := by
  rw [f_s_copyFrom_14_61] at h
  refine am_Y.run (k := 2) (pc' := 2) (lv' := [(2, .int 0), (0, .ref 14), (1, .ref 61)]) (st' := []) (h' := hp M) rfl ?_
  refine t_s_rows_14 M ?_ 30 0 rfl
  cases h
  refine am_Y.run (k := 8) (pc' := 49) (lv' := [(0, .ref 14), (1, .ref 61)]) (st' := []) (h' := hp (si (si (f_s_rows M 63 16 30) 14 1 (gi (f_s_rows M 63 16 30) 61 1)) 14 2 (gi (si (f_s_rows M 63 16 30) 14 1 (gi (f_s_rows M 63 16 30) 61 1)) 61 2))) rfl ?_
  exact am_Y.ret rfl
theorem t_s_rows_61 (M : Mem) {hf : am_H} (fin : am_Y S 0 0 0 am_M266 33 [(0, .ref 61), (1, .ref 14)] [] (hp (f_s_rows M 16 63 30)) none hf) : ∀ n i : Nat, i + n = 30 → am_Y S 0 0 0 am_M266 2 [(2, .int (nI i)), (0, .ref 61), (1, .ref 14)] [] (hp (f_s_rows M 16 63 i)) none hf := by
  intro n
  induction n with
  | zero =>
    intro i hi
    obtain rfl : i = 30 := by omega
    refine am_Y.run (k := 3) (pc' := 33) (lv' := [(2, .int 30), (0, .ref 61), (1, .ref 14)]) (st' := []) (h' := hp (f_s_rows M 16 63 30)) rfl ?_
    exact am_Y.weak (lv2 := [(0, .ref 61), (1, .ref 14)]) rfl rfl ⟨rfl, rfl, trivial⟩ fin
  | succ n ih =>
    intro i hi
    have hk : i < 30 := by omega
    have g : am_in (nI i) 30 = true := by
      unfold am_in
      rw [decide_eq_false (nI_pos (by omega)), nI_clamp (by omega)]
      exact Nat.ble_eq.mpr hk
    refine am_Y.run (k := 2) (pc' := 5) (lv' := [(2, .int (nI i)), (0, .ref 61), (1, .ref 14)]) (st' := [.int 30, .int (nI i)]) (h' := hp (f_s_rows M 16 63 i)) rfl ?_
    refine am_Y.br (c := 30 ≤ nI i) _ (t := 33) (u := 8) (lv' := [(2, .int (nI i)), (0, .ref 61), (1, .ref 14)]) (st' := []) (h' := hp (f_s_rows M 16 63 i)) rfl (fun hc => absurd hc (nI_ge hk (by decide))) (fun hc => ?_)
    refine am_Y.run (k := 3) (pc' := 13) (lv' := [(2, .int (nI i)), (0, .ref 61), (1, .ref 14)]) (st' := [.int (nI i), .ref 15]) (h' := hp (f_s_rows M 16 63 i)) rfl ?_
    refine am_Y.aald (a := 10) (n := 30) (t := 4) (f := fun i => if i < 30 then some (16 + i) else none) rfl rfl rfl g ?_
    try dsimp only
    rw [nI_clamp (by omega), if_pos hk, show 16 + i = (11 + i) + 5 by omega]
    refine am_Y.run (k := 4) (pc' := 20) (lv' := [(2, .int (nI i)), (0, .ref 61), (1, .ref 14)]) (st' := [.int (nI i), .ref 62, .int 0, .ref ((11 + i) + 5)]) (h' := hp (f_s_rows M 16 63 i)) rfl ?_
    refine am_Y.aald (a := 57) (n := 30) (t := 4) (f := fun i => if i < 30 then some (63 + i) else none) rfl rfl rfl g ?_
    try dsimp only
    rw [nI_clamp (by omega), if_pos hk, show 63 + i = (58 + i) + 5 by omega]
    refine am_Y.run (k := 2) (pc' := 24) (lv' := [(2, .int (nI i)), (0, .ref 61), (1, .ref 14)]) (st' := [.int 66, .int 0, .ref ((58 + i) + 5), .int 0, .ref ((11 + i) + 5)]) (h' := hp (f_s_rows M 16 63 i)) rfl ?_
    refine am_Y.cpy (a := 11 + i) (b := 58 + i) rfl rfl (row_get _ hk) (kow_get _ hk) (by decide) (by decide) ?_
    rw [kow_put _ _ hk]
    refine am_Y.run (k := 2) (pc' := 2) (lv' := [(2, .int (nI i + 1)), (0, .ref 61), (1, .ref 14)]) (st' := []) (h' := hp (f_s_rows M 16 63 (i + 1))) rfl ?_
    rw [nI_1]
    exact ih (i + 1) (by omega)
theorem t_s_copyFrom_61_14 (N : Nat) (M M' : Mem) (h : f_s_copyFrom_61_14 N M = some M') : am_Y S 0 0 0 am_M266 0 [(0, .ref 61), (1, .ref 14)] [] (hp M) none (hp M') := by
  rw [f_s_copyFrom_61_14] at h
  refine am_Y.run (k := 2) (pc' := 2) (lv' := [(2, .int 0), (0, .ref 61), (1, .ref 14)]) (st' := []) (h' := hp M) rfl ?_
  refine t_s_rows_61 M ?_ 30 0 rfl
  cases h
  refine am_Y.run (k := 8) (pc' := 49) (lv' := [(0, .ref 61), (1, .ref 14)]) (st' := []) (h' := hp (si (si (f_s_rows M 16 63 30) 61 1 (gi (f_s_rows M 16 63 30) 14 1)) 61 2 (gi (si (f_s_rows M 16 63 30) 61 1 (gi (f_s_rows M 16 63 30) 14 1)) 14 2))) rfl ?_
  exact am_Y.ret rfl
end MAN
