/-! The class reads a minus. -/
section ONE
variable {B : Nat → Nat} {n u so T N : Nat} {x : Int32} {M : Mem} {j sz d r : Nat} {RO : Int32 → Mem → Option Mem}
theorem oc_neg (hN : 4000 ≤ N) (hT : T ≤ 300) (hT2 : ∀ j, kd B n (stk B n j) ≠ 48 → j < T) (hd : d < 8) (hr : 1 ≤ r) (hR : ∀ M1 j1 sz1, He B n T M1 j1 sz1 → M1.1 103 5 = nI (12 + so) → Oc B n so T r (OneOk B n u so T N x j1 (d + 1)) (OneFl B n u so T N x j1 (d + 1)) M1 j1 sz1 (RO (nI (d + 1)) M1)) (h : He B n T M j sz) (h5 : M.1 103 5 = nI (12 + so)) (hk : kd B n (stk B n j) = 39) : Oc B n so T r (OneOk B n u so T N x j d) (OneFl B n u so T N x j d) M j sz (f_r_readOneB N RO (nI d) M) := by
  have up := stk_up hT2 (j := j) (by omega)
  have s9 := h.2.2.2.2.2.2.2.2
  obtain ⟨a1, a2⟩ := h.adv (hT2 j (by omega))
  have ck : CK M (adM B n M j) sz := CK.ad
  have rd : f_r_readOneB N RO (nI d) M = Option.bind (RO (nI (d + 1)) (adM B n M j)) fun q10 => Option.bind (f_p_put (50 : Int32) (0 : Int32) q10) fun q11 => some q11 := by
    rw [rd_84 h (Or.inr (Or.inl hk))]
    unfold f_r_readOne_84
    rw [if_pos (show nI d < (8 : Int32) from nI_lt (b := 8) hd (by decide)), if_neg (show ¬ gi M 103 7 = (27 : Int32) from fun e => by have := (h.is (k := 27) (by decide)).mp e; omega), if_neg (show ¬ gi M 103 7 = (42 : Int32) from fun e => by have := (h.is (k := 42) (by decide)).mp e; omega), a1, Option.bind_some, nI_1]
  rw [rd]
  rcases hR (adM B n M j) (j + 1) sz a2 ((ck.2.2.2.1 5 (by omega) (by omega) (by omega) (by omega)).trans h5) with ⟨M', f, jf, b1, b2, b3⟩ | ⟨M', j', sz', V, b1, b2, b3, b4, b5, b6, b7, b8⟩
  · left
    obtain ⟨M2, p1, p2⟩ := b2.put 50 0
    exact ⟨M2, f, jf, by rw [b1, Option.bind_some, p1]; rfl, p2, one_negF hN hT2 hk hd b3⟩
  · right
    obtain ⟨p1, p2⟩ := b2.put (k := 50) (v := 0) (by omega) (by omega) (by omega)
    have ss := b6.1
    refine ⟨puM M' sz' 50 0, j', sz' + 1, fun e => -(V e), ?_, p2, by omega, by omega, (ck.tr b5 (Nat.le_refl _)).tr CK.pu (by omega), ?_, b7.neg, one_neg hN hT hT2 hk hd b7 b8⟩
    · rw [b1, Option.bind_some, show (50 : Int32) = nI 50 from rfl, show (0 : Int32) = nI 0 from rfl, p1]
      rfl
    · exact Cod.un (k := 50) (b6.cong (fun i _ i2 => (CK.pu (M := M') (sz := sz') (k := 50) (v := 0)).1 i i2)) hr (fun v => -v) (by omega) puM_c (fun M p hp h => op_neg M p hp h) (by decide) (by decide) (by decide)
end ONE
