/-! A number that the class expects. -/
section HE
variable {B : Nat → Nat} {n T : Nat} {M : Mem} {j sz : Nat}
theorem He.num (h : He B n T M j sz) (hT2 : ∀ j, kd B n (stk B n j) ≠ 48 → j < T) {a b : Nat} (hb : b ≤ 9999) (ha : a ≤ b) : (kd B n (stk B n j) = 33 → a ≤ nm B n (stk B n j) → nm B n (stk B n j) ≤ b → f_r_expectNumber (nI a) (nI b) M = some (nI (nm B n (stk B n j)), adM B n M j) ∧ He B n T (adM B n M j) (j + 1) sz) ∧ (kd B n (stk B n j) = 33 → (nm B n (stk B n j) < a ∨ b < nm B n (stk B n j)) → ∃ M', f_r_expectNumber (nI a) (nI b) M = some (nI a, M') ∧ Br M' 2 (nI (stk B n j))) ∧ (kd B n (stk B n j) ≠ 33 → ∃ M', f_r_expectNumber (nI a) (nI b) M = some (nI a, M') ∧ Br M' 1 (nI (stk B n j))) := by
  have s := h.st j
  have h' := h
  obtain ⟨h1, h2, h3, h4, h5, h6, h7, h8, h9⟩ := h'
  have nl := nm_le B n (stk B n j)
  have am : am_in (gi M 103 6) 301 = true := by
    rw [show gi M 103 6 = nI j from h6]
    exact am_in_nI (by omega) (by decide)
  have nv : gi M 102 (gi M 103 6).toNatClampNeg >>> (15 : Int32) = nI (nm B n (stk B n j)) := by
    rw [show gi M 103 6 = nI j from h6, nI_clamp (by omega), show gi M 102 j = nI (tkv B n (stk B n j)) from h3 j h4, tk_nm s]
  have t33 : (gi M 103 7 = (33 : Int32)) ↔ kd B n (stk B n j) = 33 := h.is (k := 33) (by decide)
  unfold f_r_expectNumber
  rw [if_pos am, nv]
  refine ⟨fun e l1 l2 => ?_, fun e l => ?_, fun e => ?_⟩
  · obtain ⟨a1, a2⟩ := h.adv (hT2 j (by omega))
    rw [if_pos (t33.mpr e), if_neg (nI_nlt l1 (by omega)), if_pos (nI_le l2 (by omega)), a1]
    exact ⟨rfl, a2⟩
  · obtain ⟨M', a1, a2⟩ := h.fail (f := 2) (by omega) (by omega)
    refine ⟨M', ?_, a2⟩
    rw [if_pos (t33.mpr e), show (2 : Int32) = nI 2 from rfl, a1]
    by_cases z : nm B n (stk B n j) < a
    · rw [if_pos (nI_lt z (by omega))]
      rfl
    · rw [if_neg (nI_nlt (by omega) (by omega)), if_neg (nI_ge (by omega) (by omega))]
      rfl
  · obtain ⟨M', a1, a2⟩ := h.fail (f := 1) (by omega) (by omega)
    refine ⟨M', ?_, a2⟩
    rw [if_neg (fun z => e (t33.mp z)), show (1 : Int32) = nI 1 from rfl, a1]
    rfl
end HE
