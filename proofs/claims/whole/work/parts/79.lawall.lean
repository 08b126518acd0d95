/-! The law's loop, out of what each call owes. -/
theorem i_bmod {x : Int} (h1 : -2147483648 ≤ x) (h2 : x < 2147483648) : x.bmod (2 ^ 32) = x := by
  apply Int.bmod_eq_of_le
  · show -((2 : Int) ^ 32 / 2) ≤ x
    omega
  · show x < ((2 : Int) ^ 32 + 1) / 2
    omega
theorem i_add {x y : Int32} (h1 : -2147483648 ≤ x.toInt + y.toInt) (h2 : x.toInt + y.toInt < 2147483648) : (x + y).toInt = x.toInt + y.toInt := by
  rw [Int32.toInt_add]; exact i_bmod h1 h2
theorem i_sub {x y : Int32} (h1 : -2147483648 ≤ x.toInt - y.toInt) (h2 : x.toInt - y.toInt < 2147483648) : (x - y).toInt = x.toInt - y.toInt := by
  rw [Int32.toInt_sub]; exact i_bmod h1 h2
theorem i_mul {x y : Int32} (h1 : -2147483648 ≤ x.toInt * y.toInt) (h2 : x.toInt * y.toInt < 2147483648) : (x * y).toInt = x.toInt * y.toInt := by
  rw [Int32.toInt_mul]; exact i_bmod h1 h2
theorem lw_cmp {L i : Nat} (hL : L ≤ 3072) (hi : i ≤ 4000) : (Int32.ofNat L - (6 : Int32) < nI i) ↔ L < i + 6 := by
  have e : (Int32.ofNat L).toInt = (L : Int) := nI_toInt (n := L) (by omega)
  have s : (6 : Int32).toInt = 6 := by decide
  rw [Int32.lt_iff_toInt_lt, i_sub (by rw [e, s]; omega) (by rw [e, s]; omega), e, s, nI_toInt (by omega)]
  omega
theorem am_in_nI {i n : Nat} (h : i < n) (hn : n < 2 ^ 31) : am_in (nI i) n = true := by
  unfold am_in
  rw [nI_clamp (by omega)]
  have h0 := nI_pos (n := i) (by omega)
  simp only [h0, decide_false, Bool.not_false, Bool.true_and]
  exact Nat.ble_eq.mpr h
def AllO (J J' : Mem → Prop) (N : Nat) : Prop := O_0 J J' N ∧ O_1 J J' N ∧ O_2 J J' N ∧ O_3 J J' N ∧ O_4 J J' N ∧ O_5 J J' N ∧ O_6 J J' N ∧ O_7 J J' N ∧ O_8 J J' N ∧ O_9 J J' N ∧ O_10 J J' N ∧ O_11 J J' N ∧ O_12 J J' N ∧ O_13 J J' N ∧ O_14 J J' N ∧ O_15 J J' N ∧ O_16 J J' N ∧ O_17 J J' N ∧ O_18 J J' N ∧ O_19 J J' N ∧ O_20 J J' N ∧ O_21 J J' N ∧ O_22 J J' N ∧ O_23 J J' N ∧ O_24 J J' N ∧ O_25 J J' N ∧ O_26 J J' N ∧ O_27 J J' N ∧ O_28 J J' N ∧ O_29 J J' N ∧ O_30 J J' N ∧ O_31 J J' N ∧ O_32 J J' N ∧ O_33 J J' N ∧ O_34 J J' N ∧ O_35 J J' N ∧ O_36 J J' N ∧ O_37 J J' N ∧ O_38 J J' N ∧ O_39 J J' N ∧ O_40 J J' N ∧ O_41 J J' N ∧ O_42 J J' N ∧ O_43 J J' N ∧ O_44 J J' N ∧ O_45 J J' N ∧ O_46 J J' N
set_option maxRecDepth 100000 in
theorem law_case {J J' : Mem → Prop} {N : Nat} {S : Nat × (Nat → Int32)} {n : Nat} {x3 : Int32} {M : Mem} (hO : AllO J J' N) (hJ : ∀ M, J M → J' M) (hM : J M) (hc : ¬ (Int32.ofNat S.1) - (6 : Int32) < x3) (h0 : am_in x3 S.1 = true) (h1 : am_in (x3 + (1 : Int32)) S.1 = true) (h2 : am_in (x3 + (2 : Int32)) S.1 = true) (h3 : am_in (x3 + (3 : Int32)) S.1 = true) (h4 : am_in (x3 + (4 : Int32)) S.1 = true) (h5 : am_in (x3 + (5 : Int32)) S.1 = true) (hK : ∀ M', J' M' → ∃ Mf, f_law_18 S N n (x3 + (6 : Int32)) M' = some (1, Mf)) : ∃ Mf, f_law_18 S N (n + 1) x3 M = some (1, Mf) := by
  obtain ⟨o0, o1, o2, o3, o4, o5, o6, o7, o8, o9, o10, o11, o12, o13, o14, o15, o16, o17, o18, o19, o20, o21, o22, o23, o24, o25, o26, o27, o28, o29, o30, o31, o32, o33, o34, o35, o36, o37, o38, o39, o40, o41, o42, o43, o44, o45, o46⟩ := hO
  rw [f_law_18, if_neg hc, if_pos h0]
  generalize (S.2 (x3).toNatClampNeg) &&& (63 : Int32) = op
  by_cases e0 : op = (0 : Int32)
  · rw [if_pos e0]
    exact c_0 o0 hM h1 h2 h3 hK
  rw [if_neg e0]
  by_cases e1 : op = (1 : Int32)
  · rw [if_pos e1]
    exact c_1 o1 hM h1 h2 h3 h4 h5 hK
  rw [if_neg e1]
  by_cases e2 : op = (2 : Int32)
  · rw [if_pos e2]
    exact c_2 o2 hM h1 hK
  rw [if_neg e2]
  by_cases e3 : op = (3 : Int32)
  · rw [if_pos e3]
    exact c_3 o3 hM hK
  rw [if_neg e3]
  by_cases e4 : op = (4 : Int32)
  · rw [if_pos e4]
    exact c_4 o4 hM h1 hK
  rw [if_neg e4]
  by_cases e5 : op = (5 : Int32)
  · rw [if_pos e5]
    exact c_5 o5 hM h1 hK
  rw [if_neg e5]
  by_cases e6 : op = (6 : Int32)
  · rw [if_pos e6]
    exact c_6 o6 hM h1 h2 hK
  rw [if_neg e6]
  by_cases e7 : op = (7 : Int32)
  · rw [if_pos e7]
    exact c_7 o7 hM hK
  rw [if_neg e7]
  by_cases e8 : op = (8 : Int32)
  · rw [if_pos e8]
    exact c_8 o8 hM h1 hK
  rw [if_neg e8]
  by_cases e9 : op = (9 : Int32)
  · rw [if_pos e9]
    exact c_9 o9 hM h1 hK
  rw [if_neg e9]
  by_cases e10 : op = (10 : Int32)
  · rw [if_pos e10]
    exact c_10 o10 hM hK
  rw [if_neg e10]
  by_cases e11 : op = (11 : Int32)
  · rw [if_pos e11]
    exact c_11 o11 hM h1 hK
  rw [if_neg e11]
  by_cases e12 : op = (12 : Int32)
  · rw [if_pos e12]
    exact c_12 o12 hM h1 h2 hK
  rw [if_neg e12]
  by_cases e13 : op = (13 : Int32)
  · rw [if_pos e13]
    exact c_13 o13 hM hK
  rw [if_neg e13]
  by_cases e14 : op = (14 : Int32)
  · rw [if_pos e14]
    exact c_14 o14 hM h1 h2 hK
  rw [if_neg e14]
  by_cases e15 : op = (15 : Int32)
  · rw [if_pos e15]
    exact c_15 o15 hM h1 hK
  rw [if_neg e15]
  by_cases e16 : op = (16 : Int32)
  · rw [if_pos e16]
    exact c_16 o16 hM h1 h2 hK
  rw [if_neg e16]
  by_cases e17 : op = (17 : Int32)
  · rw [if_pos e17]
    exact c_17 o17 hM h1 h2 hK
  rw [if_neg e17]
  by_cases e18 : op = (18 : Int32)
  · rw [if_pos e18]
    exact c_18 o18 hM h1 h2 h3 hK
  rw [if_neg e18]
  by_cases e19 : op = (19 : Int32)
  · rw [if_pos e19]
    exact c_19 o19 hM h1 h2 hK
  rw [if_neg e19]
  by_cases e20 : op = (20 : Int32)
  · rw [if_pos e20]
    exact c_20 o20 hM h1 h2 h3 h4 hK
  rw [if_neg e20]
  by_cases e21 : op = (21 : Int32)
  · rw [if_pos e21]
    exact c_21 o21 hM h1 h2 hK
  rw [if_neg e21]
  by_cases e22 : op = (22 : Int32)
  · rw [if_pos e22]
    exact c_22 o22 hM h1 hK
  rw [if_neg e22]
  by_cases e23 : op = (23 : Int32)
  · rw [if_pos e23]
    exact c_23 o23 hM h1 hK
  rw [if_neg e23]
  by_cases e24 : op = (24 : Int32)
  · rw [if_pos e24]
    exact c_24 o24 hM h1 h2 hK
  rw [if_neg e24]
  by_cases e25 : op = (25 : Int32)
  · rw [if_pos e25]
    exact c_25 o25 hM h1 h2 h3 h4 hK
  rw [if_neg e25]
  by_cases e26 : op = (26 : Int32)
  · rw [if_pos e26]
    exact c_26 o26 hM h1 hK
  rw [if_neg e26]
  by_cases e27 : op = (27 : Int32)
  · rw [if_pos e27]
    exact c_27 o27 hM hK
  rw [if_neg e27]
  by_cases e28 : op = (28 : Int32)
  · rw [if_pos e28]
    exact c_28 o28 hM h1 hK
  rw [if_neg e28]
  by_cases e29 : op = (29 : Int32)
  · rw [if_pos e29]
    exact c_29 o29 hM h1 h2 hK
  rw [if_neg e29]
  by_cases e30 : op = (30 : Int32)
  · rw [if_pos e30]
    exact c_30 o30 hM h1 hK
  rw [if_neg e30]
  by_cases e31 : op = (31 : Int32)
  · rw [if_pos e31]
    exact c_31 o31 hM h1 hK
  rw [if_neg e31]
  by_cases e32 : op = (32 : Int32)
  · rw [if_pos e32]
    exact c_32 o32 hM h1 hK
  rw [if_neg e32]
  by_cases e33 : op = (33 : Int32)
  · rw [if_pos e33]
    exact c_33 o33 hM h1 h2 hK
  rw [if_neg e33]
  by_cases e34 : op = (34 : Int32)
  · rw [if_pos e34]
    exact c_34 o34 hM h1 h2 hK
  rw [if_neg e34]
  by_cases e35 : op = (35 : Int32)
  · rw [if_pos e35]
    exact c_35 o35 hM h1 hK
  rw [if_neg e35]
  by_cases e36 : op = (36 : Int32)
  · rw [if_pos e36]
    exact c_36 o36 hM hK
  rw [if_neg e36]
  by_cases e37 : op = (37 : Int32)
  · rw [if_pos e37]
    exact c_37 o37 hM h1 h2 h3 hK
  rw [if_neg e37]
  by_cases e38 : op = (38 : Int32)
  · rw [if_pos e38]
    exact c_38 o38 hM h1 h2 hK
  rw [if_neg e38]
  by_cases e39 : op = (39 : Int32)
  · rw [if_pos e39]
    exact c_39 o39 hM h1 h2 h3 h4 hK
  rw [if_neg e39]
  by_cases e40 : op = (40 : Int32)
  · rw [if_pos e40]
    exact c_40 o40 hM h1 h2 h3 h4 h5 hK
  rw [if_neg e40]
  by_cases e41 : op = (41 : Int32)
  · rw [if_pos e41]
    exact c_41 o41 hM h1 h2 h3 h4 hK
  rw [if_neg e41]
  by_cases e42 : op = (42 : Int32)
  · rw [if_pos e42]
    exact c_42 o42 hM h1 h2 hK
  rw [if_neg e42]
  by_cases e43 : op = (43 : Int32)
  · rw [if_pos e43]
    exact c_43 o43 hM h1 h2 h3 h4 hK
  rw [if_neg e43]
  by_cases e44 : op = (44 : Int32)
  · rw [if_pos e44]
    exact c_44 o44 hM hK
  rw [if_neg e44]
  by_cases e45 : op = (45 : Int32)
  · rw [if_pos e45]
    exact c_45 o45 hM hK
  rw [if_neg e45]
  by_cases e46 : op = (46 : Int32)
  · rw [if_pos e46]
    exact c_46 o46 hM h1 hK
  rw [if_neg e46]
  exact hK M (hJ M hM)
theorem law_end {N : Nat} {S : Nat × (Nat → Int32)} {n : Nat} {x3 : Int32} {M : Mem} (hc : (Int32.ofNat S.1) - (6 : Int32) < x3) : f_law_18 S N (n + 1) x3 M = some (1, M) := by
  rw [f_law_18, if_pos hc]
theorem nI_add' (i j : Nat) (x : Int32) (h : x = nI j) : nI i + x = nI (i + j) := by rw [h, nI_add]
theorem law_go {J : Mem → Prop} {N : Nat} {S : Nat × (Nat → Int32)} (hO : AllO J J N) (hS : S.1 ≤ 3072) : ∀ (n i : Nat) (M : Mem), J M → i ≤ S.1 → S.1 < i + 6 * n → ∃ Mf, f_law_18 S N n (nI i) M = some (1, Mf) := by
  intro n
  induction n with
  | zero => intro i M hM hi h; omega
  | succ n ih =>
    intro i M hM hi h
    by_cases hc : S.1 < i + 6
    · exact ⟨M, law_end ((lw_cmp hS (by omega)).mpr hc)⟩
    · refine law_case hO (fun _ h => h) hM (fun q => hc ((lw_cmp hS (by omega)).mp q)) (am_in_nI (by omega) (by omega)) ?_ ?_ ?_ ?_ ?_ (fun M' hM' => ?_)
      · rw [nI_add' i 1 1 rfl]; exact am_in_nI (by omega) (by omega)
      · rw [nI_add' i 2 2 rfl]; exact am_in_nI (by omega) (by omega)
      · rw [nI_add' i 3 3 rfl]; exact am_in_nI (by omega) (by omega)
      · rw [nI_add' i 4 4 rfl]; exact am_in_nI (by omega) (by omega)
      · rw [nI_add' i 5 5 rfl]; exact am_in_nI (by omega) (by omega)
      · rw [nI_add' i 6 6 rfl]; exact ih (i + 6) M' hM' (by omega) (by omega)
/-- one call on a fresh object -/
theorem law_one {J : Mem → Prop} {N : Nat} {S : Nat × (Nat → Int32)} (hO : AllO J (fun _ => True) N) (hS : S.1 ≤ 6) {M : Mem} (hM : J M) (n : Nat) : ∃ Mf, f_law_18 S N (n + 2) 0 M = some (1, Mf) := by
  by_cases hc : S.1 < 6
  · exact ⟨M, law_end ((lw_cmp (i := 0) (by omega) (by omega)).mpr (by omega))⟩
  · have e : S.1 = 6 := by omega
    refine law_case hO (fun _ _ => trivial) hM (fun q => hc ((lw_cmp (i := 0) (by omega) (by omega)).mp q)) ?_ ?_ ?_ ?_ ?_ ?_ (fun M' _ => ⟨M', law_end ?_⟩)
    · rw [e]; decide
    · rw [e]; decide
    · rw [e]; decide
    · rw [e]; decide
    · rw [e]; decide
    · rw [e]; decide
    · rw [e]; decide
