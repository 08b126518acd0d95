/-! The class reads brackets. -/
section PAR
variable {B : Nat → Nat} {n u so T N : Nat} {x : Int32} {M : Mem} {j sz d r : Nat} {RO : Int32 → Mem → Option Mem}
theorem oc_par (hN : 4000 ≤ N) (hT : T ≤ 300) (hT2 : ∀ j, kd B n (stk B n j) ≠ 48 → j < T) (hd : d < 8) (hS : OcR B n so T r (OkSu B n u so T N x (d + 1)) (FlLv B n u so T N x 5 (d + 1)) (f_r_readSum N RO (nI (d + 1)))) (h : He B n T M j sz) (h5 : M.1 103 5 = nI (12 + so)) (hk : kd B n (stk B n j) = 42) : Oc B n so T r (OneOk B n u so T N x j d) (OneFl B n u so T N x j d) M j sz (f_r_readOneB N RO (nI d) M) := by
  have up := stk_up hT2 (j := j) (by omega)
  obtain ⟨a1, a2⟩ := h.adv (hT2 j (by omega))
  have ck : CK M (adM B n M j) sz := CK.ad
  have rd : f_r_readOneB N RO (nI d) M = Option.bind (f_r_readSum N RO (nI (d + 1)) (adM B n M j)) fun q7 => Option.bind (f_r_expect (43 : Int32) q7) fun q8 => some q8 := by
    rw [rd_84 h (Or.inl hk)]
    unfold f_r_readOne_84
    rw [if_pos (show nI d < (8 : Int32) from nI_lt (b := 8) hd (by decide)), if_neg (show ¬ gi M 103 7 = (27 : Int32) from fun e => by have := (h.is (k := 27) (by decide)).mp e; omega), if_pos (show gi M 103 7 = (42 : Int32) from (h.is (k := 42) (by decide)).mpr hk), a1, Option.bind_some, nI_1]
  rw [rd]
  rcases hS (adM B n M j) (j + 1) sz a2 ((ck.2.2.2.1 5 (by omega) (by omega) (by omega) (by omega)).trans h5) with ⟨M', f, jf, b1, b2, b3⟩ | ⟨M', j', sz', V, b1, b2, b3, b4, b5, b6, b7, b8, b9⟩
  · left
    obtain ⟨M2, p1, p2⟩ := b2.exp 43 (by decide)
    exact ⟨M2, f, jf, by rw [b1, Option.bind_some, p1]; rfl, p2, one_parF hN hT2 hk hd b3⟩
  · obtain ⟨x1, x2⟩ := b2.exp (k := 43) (by omega) hT2
    by_cases c : kd B n (stk B n j') = 43
    · right
      obtain ⟨y1, y2⟩ := x1 c
      have up2 := stk_up hT2 (j := j') (by omega)
      refine ⟨adM B n M' j', j' + 1, sz', V, ?_, y2, by omega, by omega, (ck.tr b5 (Nat.le_refl _)).tr (CK.ad (sz := sz)) (Nat.le_refl _), b6.cong (fun i _ i2 => (CK.ad (B := B) (n := n) (j := j') (sz := sz') (M := M')).1 i i2), b7, one_par hN hT hT2 hk hd b8 c⟩
      rw [b1, Option.bind_some, show (43 : Int32) = nI 43 from rfl, y1]
      rfl
    · left
      obtain ⟨M2, y1, y2⟩ := x2 c
      refine ⟨M2, 1, j', ?_, y2, one_parM hN hT2 hk hd b8 c b9⟩
      rw [b1, Option.bind_some, show (43 : Int32) = nI 43 from rfl, y1]
      rfl
end PAR
