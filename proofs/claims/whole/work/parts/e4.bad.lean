/-! The class reads one: what is none, and what is too deep. -/
section ONE
variable {B : Nat → Nat} {n u so T N : Nat} {x : Int32} {M : Mem} {j sz d : Nat} {RO : Int32 → Mem → Option Mem}
theorem w_hi : ∀ k, k < 49 → 12 ≤ k → f_w_within (nI k) 0 11 M0 = 0 := by decide +kernel
theorem oc_bad (hN : 4000 ≤ N) (h : He B n T M j sz) (h12 : 12 ≤ kd B n (stk B n j)) (h33 : kd B n (stk B n j) ≠ 33) (h42 : kd B n (stk B n j) ≠ 42) (h39 : kd B n (stk B n j) ≠ 39) (h27 : kd B n (stk B n j) ≠ 27) {y : Int32} {r : Nat} : Oc B n so T r (OneOk B n u so T N x j d) (OneFl B n u so T N x j d) M j sz (f_r_readOneB N RO y M) := by
  left
  obtain ⟨M', f1, f2⟩ := h.fail (f := 1) (by omega) (by omega)
  have kl := kd_lt B n (stk B n j)
  refine ⟨M', 1, j, ?_, f2, one_bad hN h12 h33 h42 h39 h27⟩
  unfold f_r_readOneB
  rw [if_neg (show ¬ gi M 103 7 = (33 : Int32) from fun e => h33 ((h.is (k := 33) (by decide)).mp e)), if_neg (show ¬ gi M 103 7 = (42 : Int32) from fun e => h42 ((h.is (k := 42) (by decide)).mp e)), if_neg (show ¬ gi M 103 7 = (39 : Int32) from fun e => h39 ((h.is (k := 39) (by decide)).mp e)), if_neg (show ¬ gi M 103 7 = (27 : Int32) from fun e => h27 ((h.is (k := 27) (by decide)).mp e)), h.t7, if_pos (show f_w_within (nI (kd B n (stk B n j))) 0 11 M = 0 from w_hi _ (by omega) h12), show (1 : Int32) = nI 1 from rfl, f1]
  rfl
theorem rd_84 (h : He B n T M j sz) (hk : kd B n (stk B n j) = 42 ∨ kd B n (stk B n j) = 39 ∨ kd B n (stk B n j) = 27) (y : Int32) : f_r_readOneB N RO y M = f_r_readOne_84 N RO y M := by
  unfold f_r_readOneB
  rw [if_neg (show ¬ gi M 103 7 = (33 : Int32) from fun e => by have := (h.is (k := 33) (by decide)).mp e; omega), h.t7, if_pos (show f_w_within (nI (kd B n (stk B n j))) 0 11 M = 0 from w_hi _ (by omega) (by omega))]
  rcases hk with hk | hk | hk
  · rw [hk, if_pos (show nI 42 = (42 : Int32) from rfl)]
  · rw [hk, if_neg (show ¬ nI 39 = (42 : Int32) by decide), if_pos (show nI 39 = (39 : Int32) from rfl)]
  · rw [hk, if_neg (show ¬ nI 27 = (42 : Int32) by decide), if_neg (show ¬ nI 27 = (39 : Int32) by decide), if_pos (show nI 27 = (27 : Int32) from rfl)]
theorem oc_deep (h : He B n T M j sz) (hk : kd B n (stk B n j) = 42 ∨ kd B n (stk B n j) = 39 ∨ kd B n (stk B n j) = 27) {r : Nat} : Oc B n so T r (OneOk B n u so T N x j 8) (OneFl B n u so T N x j 8) M j sz (f_r_readOneB N RO (nI 8) M) := by
  left
  obtain ⟨M', f1, f2⟩ := h.fail (f := 3) (by omega) (by omega)
  refine ⟨M', 3, j, ?_, f2, one_deep hk rfl⟩
  rw [rd_84 h hk]
  unfold f_r_readOne_84
  rw [if_neg (show ¬ nI 8 < (8 : Int32) by decide), show (3 : Int32) = nI 3 from rfl, f1]
  rfl
end ONE
