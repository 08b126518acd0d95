/-! The class reads: its healthy state. -/
def He (B : Nat → Nat) (n T : Nat) (M : Mem) (j sz : Nat) : Prop := n ≤ 300 ∧ T ≤ n ∧ (∀ i, i ≤ T → M.1 102 i = nI (tkv B n (stk B n i))) ∧ j ≤ T ∧ M.1 103 1 = 0 ∧ M.1 103 6 = nI j ∧ M.1 103 7 = nI (kd B n (stk B n j)) ∧ M.1 104 3 = nI sz ∧ sz ≤ stk B n j
section HE
variable {B : Nat → Nat} {n T : Nat} {M : Mem} {j sz : Nat}
theorem tk_kd {s : Nat} (hs : s ≤ 300) : nI (tkv B n s) &&& (63 : Int32) = nI (kd B n s) := by
  have k := kd_lt B n s
  have v := nm_le B n s
  rw [show (63 : Int32) = nI 63 from rfl, fa_and, show (63 : Nat) = 2 ^ 6 - 1 from rfl, Nat.and_two_pow_sub_one_eq_mod]
  unfold tkv
  congr 1
  omega
theorem tk_nm {s : Nat} (hs : s ≤ 300) : nI (tkv B n s) >>> (15 : Int32) = nI (nm B n s) := by
  have k := kd_lt B n s
  have v := nm_le B n s
  have h : tkv B n s < 2 ^ 31 := by unfold tkv; omega
  rw [pk_shrN h 15 15 (by decide)]
  unfold tkv
  congr 1
  omega
theorem tk_st {s : Nat} (hs : s ≤ 300) : (nI (tkv B n s) >>> (6 : Int32)) &&& (511 : Int32) = nI s := by
  have k := kd_lt B n s
  have v := nm_le B n s
  have h : tkv B n s < 2 ^ 31 := by unfold tkv; omega
  rw [pk_shrN h 6 6 (by decide), show (511 : Int32) = nI 511 from rfl, fa_and, show (511 : Nat) = 2 ^ 9 - 1 from rfl, Nat.and_two_pow_sub_one_eq_mod]
  unfold tkv
  congr 1
  omega
theorem He.st (h : He B n T M j sz) (i : Nat) : stk B n i ≤ 300 := by
  have := stk_n (B := B) (n := n) i
  have := h.1
  omega
theorem He.t7 (h : He B n T M j sz) : gi M 103 7 = nI (kd B n (stk B n j)) := h.2.2.2.2.2.2.1
theorem He.is (h : He B n T M j sz) {k : Nat} (hk : k < 2 ^ 31) : (gi M 103 7 = nI k) ↔ kd B n (stk B n j) = k := by
  rw [h.t7]
  have := kd_lt B n (stk B n j)
  exact nI_eq (by omega) hk
/-- the next token -/
def adM (B : Nat → Nat) (n : Nat) (M : Mem) (j : Nat) : Mem := si (si M 103 6 (nI (j + 1))) 103 7 (nI (kd B n (stk B n (j + 1))))
theorem He.adv (h : He B n T M j sz) (hj : j < T) : f_r_advance M = some (adM B n M j) ∧ He B n T (adM B n M j) (j + 1) sz := by
  have h' := h
  obtain ⟨h1, h2, h3, h4, h5, h6, h7, h8, h9⟩ := h'
  refine ⟨?_, h1, h2, ?_, by omega, ?_, ?_, ?_, ?_, ?_⟩
  · unfold f_r_advance
    have e : gi (si M 103 6 (nI (j + 1))) 103 6 = nI (j + 1) := by
      show (si M 103 6 (nI (j + 1))).1 103 6 = _
      rw [si_at, if_pos ⟨rfl, rfl⟩]
    rw [if_pos (show gi M 103 1 = (0 : Int32) from h5), show gi M 103 6 = nI j from h6, if_neg (show ¬ (300 : Int32) ≤ nI j from nI_ge (b := 300) (by omega) (by decide)), nI_1, Option.bind_some, e, if_pos (am_in_nI (by omega) (by decide)), nI_clamp (by omega), show gi (si M 103 6 (nI (j + 1))) 102 (j + 1) = nI (tkv B n (stk B n (j + 1))) from h3 (j + 1) (by omega), tk_kd (h.st _), Option.bind_some]
    rfl
  · intro i hi
    unfold adM
    rw [si_at, if_neg (by omega), si_at, if_neg (by omega)]
    exact h3 i hi
  · unfold adM
    rw [si_at, if_neg (by omega), si_at, if_neg (by omega)]; exact h5
  · unfold adM
    rw [si_at, if_neg (by omega), si_at, if_pos ⟨rfl, rfl⟩]
  · unfold adM
    rw [si_at, if_pos ⟨rfl, rfl⟩]
  · unfold adM
    rw [si_at, if_neg (by omega), si_at, if_neg (by omega)]; exact h8
  · by_cases q : stk B n j < n
    · have := stk_gt q
      omega
    · have a := stk_n (B := B) (n := n) j
      have b : stk B n (j + 1) = n := by
        show wsp B n (te B n (stk B n j)) = n
        have e : stk B n j = n := by omega
        have : te B n n = n := by unfold te; rw [if_pos (Nat.le_refl _)]
        rw [e, this]
        exact skp_ge (Nat.le_refl _)
      omega
theorem He.fail (h : He B n T M j sz) {f : Nat} (h1 : 1 ≤ f) (h2 : f ≤ 7) : Bo f (nI (stk B n j)) (f_r_fail (nI f) M) := by
  have h' := h
  obtain ⟨g1, g2, g3, g4, g5, g6, g7, g8, g9⟩ := h'
  unfold f_r_fail
  rw [if_pos (show gi M 103 1 = (0 : Int32) from g5), Option.bind_some, show gi (si M 103 1 (nI f)) 103 6 = nI j from g6, if_pos (am_in_nI (by omega) (by decide)), nI_clamp (by omega), show gi (si M 103 1 (nI f)) 102 j = nI (tkv B n (stk B n j)) from g3 j g4, tk_st (h.st _), Option.bind_some, Option.bind_some]
  refine ⟨_, rfl, h1, h2, ?_, ?_, ?_, j, by omega, ?_⟩
  · rw [si_at, if_neg (by omega), si_at, if_neg (by omega), si_at, if_pos ⟨rfl, rfl⟩]
  · rw [si_at, if_neg (by omega), si_at, if_pos ⟨rfl, rfl⟩]
  · rw [si_at, if_pos ⟨rfl, rfl⟩]
  · rw [si_at, if_neg (by omega), si_at, if_neg (by omega), si_at, if_neg (by omega)]; exact g6
/-- one word of code -/
def puM (M : Mem) (sz k v : Nat) : Mem := si (si M 105 sz (nI (k + 64 * v))) 104 3 (nI (sz + 1))
theorem He.put (h : He B n T M j sz) (hs : sz + 1 ≤ stk B n j) {k v : Nat} (hk : k < 64) (hv : v < 1000000) : f_p_put (nI k) (nI v) M = some (puM M sz k v) ∧ He B n T (puM M sz k v) j (sz + 1) := by
  have s := h.st j
  obtain ⟨h1, h2, h3, h4, h5, h6, h7, h8, h9⟩ := h
  refine ⟨?_, h1, h2, ?_, h4, ?_, ?_, ?_, ?_, hs⟩
  · unfold f_p_put
    rw [show gi M 104 3 = nI sz from h8, if_neg (nI_pos (by omega)), if_neg (show ¬ (300 : Int32) ≤ nI sz from nI_ge (b := 300) (by omega) (by decide)), if_pos (am_in_nI (by omega) (by decide)), nI_clamp (by omega), wd_or hk hv, Option.bind_some, show gi (si M 105 sz (nI (k + 64 * v))) 104 3 = nI sz from h8, nI_1, Option.bind_some]
    rfl
  · intro i hi
    unfold puM
    rw [si_at, if_neg (by omega), si_at, if_neg (by omega)]
    exact h3 i hi
  · unfold puM
    rw [si_at, if_neg (by omega), si_at, if_neg (by omega)]; exact h5
  · unfold puM
    rw [si_at, if_neg (by omega), si_at, if_neg (by omega)]; exact h6
  · unfold puM
    rw [si_at, if_neg (by omega), si_at, if_neg (by omega)]; exact h7
  · unfold puM
    rw [si_at, if_pos ⟨rfl, rfl⟩]
theorem He.exp (h : He B n T M j sz) {k : Nat} (hk : k < 48) (hT2 : ∀ j, kd B n (stk B n j) ≠ 48 → j < T) : (kd B n (stk B n j) = k → f_r_expect (nI k) M = some (adM B n M j) ∧ He B n T (adM B n M j) (j + 1) sz) ∧ (kd B n (stk B n j) ≠ k → Bo 1 (nI (stk B n j)) (f_r_expect (nI k) M)) := by
  unfold f_r_expect
  constructor
  · intro e
    obtain ⟨a1, a2⟩ := h.adv (hT2 j (by omega))
    rw [if_pos ((h.is (by omega)).mpr e), a1]
    exact ⟨rfl, a2⟩
  · intro e
    obtain ⟨M', a1, a2⟩ := h.fail (f := 1) (by omega) (by omega)
    rw [if_neg (fun z => e ((h.is (by omega)).mp z)), show (1 : Int32) = nI 1 from rfl, a1]
    exact ⟨M', rfl, a2⟩
end HE
