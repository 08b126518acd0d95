/-! A name that the class reads; what is none of all. -/
section ONE
variable {B : Nat → Nat} {n u so T N : Nat} {x : Int32} {M : Mem} {j sz d : Nat} {RO : Int32 → Mem → Option Mem}
theorem He.pa (h : He B n T M j sz) (hT2 : ∀ j, kd B n (stk B n j) ≠ 48 → j < T) (hk48 : kd B n (stk B n j) ≠ 48) {k v : Nat} (hk : k < 64) (hv : v < 1000000) : f_p_put (nI k) (nI v) M = some (puM M sz k v) ∧ f_r_advance (puM M sz k v) = some (adM B n (puM M sz k v) j) ∧ He B n T (adM B n (puM M sz k v) j) (j + 1) (sz + 1) := by
  have up := stk_up hT2 hk48
  have s1 := h.st (j + 1)
  have jT := hT2 j hk48
  obtain ⟨h1, h2, h3, h4, h5, h6, h7, h8, h9⟩ := h
  have P : ∀ k' i', k' ≠ 105 → k' ≠ 104 → (puM M sz k v).1 k' i' = M.1 k' i' := fun k' i' a b => by
    unfold puM
    rw [si_at, if_neg (by omega), si_at, if_neg (by omega)]
  refine ⟨?_, ?_, h1, h2, ?_, by omega, ?_, ?_, ?_, ?_, by omega⟩
  · unfold f_p_put
    rw [show gi M 104 3 = nI sz from h8, if_neg (nI_pos (by omega)), if_neg (show ¬ (300 : Int32) ≤ nI sz from nI_ge (b := 300) (by omega) (by decide)), if_pos (am_in_nI (by omega) (by decide)), nI_clamp (by omega), wd_or hk hv, Option.bind_some, show gi (si M 105 sz (nI (k + 64 * v))) 104 3 = nI sz from h8, nI_1, Option.bind_some]
    rfl
  · unfold f_r_advance
    have e : gi (si (puM M sz k v) 103 6 (nI (j + 1))) 103 6 = nI (j + 1) := by
      show (si (puM M sz k v) 103 6 (nI (j + 1))).1 103 6 = _
      rw [si_at, if_pos ⟨rfl, rfl⟩]
    have e2 : gi (si (puM M sz k v) 103 6 (nI (j + 1))) 102 (j + 1) = nI (tkv B n (stk B n (j + 1))) := by
      show (si (puM M sz k v) 103 6 (nI (j + 1))).1 102 (j + 1) = _
      rw [si_at, if_neg (by omega), P _ _ (by omega) (by omega)]
      exact h3 (j + 1) (by omega)
    rw [if_pos (show gi (puM M sz k v) 103 1 = (0 : Int32) from (P _ _ (by omega) (by omega)).trans h5), show gi (puM M sz k v) 103 6 = nI j from (P _ _ (by omega) (by omega)).trans h6, if_neg (show ¬ (300 : Int32) ≤ nI j from nI_ge (b := 300) (by omega) (by decide)), nI_1, Option.bind_some, e, if_pos (am_in_nI (by omega) (by decide)), nI_clamp (by omega), e2, tk_kd s1, Option.bind_some]
    rfl
  · intro i hi
    unfold adM
    rw [si_at, if_neg (by omega), si_at, if_neg (by omega), P _ _ (by omega) (by omega)]
    exact h3 i hi
  · unfold adM
    rw [si_at, if_neg (by omega), si_at, if_neg (by omega), P _ _ (by omega) (by omega)]; exact h5
  · unfold adM
    rw [si_at, if_neg (by omega), si_at, if_pos ⟨rfl, rfl⟩]
  · unfold adM
    rw [si_at, if_pos ⟨rfl, rfl⟩]
  · unfold adM
    rw [si_at, if_neg (by omega), si_at, if_neg (by omega)]
    unfold puM
    rw [si_at, if_pos ⟨rfl, rfl⟩]
theorem w_nm : ∀ k, k < 12 → ((f_w_within (nI k) 3 9 M0 = 0) ↔ (k < 3 ∨ 10 ≤ k)) ∧ ((f_w_within (nI k) 10 11 M0 = 0) ↔ k < 10) ∧ ¬ f_w_within (nI k) 0 11 M0 = 0 ∧ ¬ nI k = (33 : Int32) := by decide +kernel
theorem oc_name (hN : 4000 ≤ N) (hT : T ≤ 300) (hT2 : ∀ j, kd B n (stk B n j) ≠ 48 → j < T) (hs : so < 3) (h : He B n T M j sz) (h5 : M.1 103 5 = nI (12 + so)) (hk : kd B n (stk B n j) < 12) {y : Int32} : Oc B n so T 1 (OneOk B n u so T N x j d) (OneFl B n u so T N x j d) M j sz (f_r_readOneB N RO y M) := by
  obtain ⟨w1, w2, w3, w4⟩ := w_nm (kd B n (stk B n j)) hk
  obtain ⟨p1, p2, p3⟩ := h.pa hT2 (k := kd B n (stk B n j)) (v := 0) (by omega) (by omega) (by omega)
  obtain ⟨M', f1, f2⟩ := h.fail (f := 5) (by omega) (by omega)
  have up := stk_up hT2 (j := j) (by omega)
  have e14 : (gi M 103 5 = (14 : Int32)) ↔ so = 2 := by
    rw [show gi M 103 5 = nI (12 + so) from h5]
    constructor
    · intro e
      have := (nI_eq (b := 14) (by omega) (by decide)).mp e
      omega
    · intro e
      rw [e]
      rfl
  have pp : (Option.bind (f_p_put (nI (kd B n (stk B n j))) (0 : Int32) M) fun q1 => Option.bind (f_r_advance q1) fun q2 => some q2) = some (adM B n (puM M sz (kd B n (stk B n j)) 0) j) := by
    rw [show (0 : Int32) = nI 0 from rfl, p1, Option.bind_some, p2]
    rfl
  have ff : (Option.bind (f_r_fail (5 : Int32) M) fun q3 => some q3) = some M' := by
    rw [show (5 : Int32) = nI 5 from rfl, f1]
    rfl
  have nY : NmOk so (kd B n (stk B n j)) → f_r_readName M = some (adM B n (puM M sz (kd B n (stk B n j)) 0) j) := by
    intro hv
    unfold f_r_readName
    unfold NmOk at hv
    rw [h.t7, pp]
    by_cases z : so = 2
    · rw [if_pos (e14.mpr z), if_pos (show f_w_within (nI (kd B n (stk B n j))) 3 9 M = 0 from w1.mpr (by omega))]
    · rw [if_neg (fun e => z (e14.mp e)), if_pos (show f_w_within (nI (kd B n (stk B n j))) 10 11 M = 0 from w2.mpr (by omega))]
  have nN : ¬ NmOk so (kd B n (stk B n j)) → f_r_readName M = some M' := by
    intro hv
    unfold f_r_readName
    unfold NmOk at hv
    rw [h.t7, ff]
    by_cases z : so = 2
    · rw [if_pos (e14.mpr z), if_neg (show ¬ f_w_within (nI (kd B n (stk B n j))) 3 9 M = 0 from fun e => by have := w1.mp e; omega)]
    · rw [if_neg (fun e => z (e14.mp e)), if_neg (show ¬ f_w_within (nI (kd B n (stk B n j))) 10 11 M = 0 from fun e => by have := w2.mp e; omega)]
  have rd : f_r_readOneB N RO y M = Option.bind (f_r_readName M) fun q4 => some q4 := by
    unfold f_r_readOneB
    rw [h.t7, if_neg w4, if_neg (show ¬ f_w_within (nI (kd B n (stk B n j))) 0 11 M = 0 from w3)]
  rw [rd]
  by_cases hv : NmOk so (kd B n (stk B n j))
  · right
    refine ⟨adM B n (puM M sz (kd B n (stk B n j)) 0) j, j + 1, sz + 1, fun e => e (kd B n (stk B n j)), by rw [nY hv]; rfl, p3, by omega, by omega, CK.pu.tr (CK.ad (sz := sz)) (Nat.le_refl _), Cod.name hk ?_, VOk.name hv, one_name hN hT hT2 hs hk hv⟩
    unfold adM
    rw [si_at, if_neg (by omega), si_at, if_neg (by omega), puM_c]
    rfl
  · left
    exact ⟨M', 5, j, by rw [nN hv]; rfl, f2, one_nam5 hs hk hv⟩
end ONE
