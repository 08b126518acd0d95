/-! The start: both sides new. -/
theorem im_tab (o : Nat) (ho : o = 0 ∨ o = 47) : Tab im1.1 o (im1.1 130) 0 0 := by
  have hE : EA (im1.1 (12 + o)) (im1.1 130) 0 0 0 61 0 0 (fun _ => 0) (fun _ => 0) (fun _ => 0) (fun _ => 0) (fun _ => 0) (fun _ => 0) := by
    rcases ho with rfl | rfl
    · exact EA.of (by omega) rfl rfl rfl (by omega) rfl rfl (by omega) rfl rfl (by omega) rfl (by decide) rfl rfl (by omega) rfl rfl rfl (fun i hi => by omega) (fun g hg => by omega) (fun j hj => by omega)
    · exact EA.of (by omega) rfl rfl rfl (by omega) rfl rfl (by omega) rfl rfl (by omega) rfl (by decide) rfl rfl (by omega) rfl rfl rfl (fun i hi => by omega) (fun g hg => by omega) (fun j hj => by omega)
  refine ⟨?_, ?_, hE.ev, ?_, ?_⟩
  · rcases ho with rfl | rfl
    · exact ⟨by omega, rfl, rfl, fun g hg => by omega⟩
    · exact ⟨by omega, rfl, rfl, fun g hg => by omega⟩
  · rcases ho with rfl | rfl
    · exact ⟨by omega, rfl, rfl, rfl, Or.inl rfl⟩
    · exact ⟨by omega, rfl, rfl, rfl, Or.inl rfl⟩
  · rcases ho with rfl | rfl
    · exact ⟨0, 0, by omega, by omega, rfl, rfl, rfl, fun j hj => by omega, fun i j _ hj => by omega, fun j hj => by omega⟩
    · exact ⟨0, 0, by omega, by omega, rfl, rfl, rfl, fun j hj => by omega, fun i j _ hj => by omega, fun j hj => by omega⟩
  · intro u hu
    rcases ho with rfl | rfl
    · rcases (show u = 0 ∨ u = 1 ∨ u = 2 ∨ u = 3 ∨ u = 4 ∨ u = 5 by omega) with rfl | rfl | rfl | rfl | rfl | rfl <;> exact ⟨⟨10, by omega, rfl, rfl⟩, ⟨10, by omega, rfl, rfl⟩, 0, by decide, rfl, rfl⟩
    · rcases (show u = 0 ∨ u = 1 ∨ u = 2 ∨ u = 3 ∨ u = 4 ∨ u = 5 by omega) with rfl | rfl | rfl | rfl | rfl | rfl <;> exact ⟨⟨10, by omega, rfl, rfl⟩, ⟨10, by omega, rfl, rfl⟩, 0, by decide, rfl, rfl⟩
theorem im_inv : Inv LX (sr im1 131 (fun j => if j < 3826 then im1.1 130 j else im1.1 131 j)) := by
  refine ⟨0, 0, 0, 0, ?_, ?_, by omega, ?_, ?_, fun u hu => by omega⟩
  · rw [sr_1, if_neg (by omega)]
    exact (im_tab 0 (Or.inl rfl)).cong (fun k a b _ _ _ _ _ => by rw [sr_1, if_neg (by omega)])
  · rw [sr_1, if_pos rfl]
    refine Tab.congA (A := im1.1 130) ?_ (fun i hi => by rw [if_pos hi])
    exact (im_tab 47 (Or.inr rfl)).cong (fun k a b _ _ _ _ _ => by rw [sr_1, if_neg (by omega)])
  · exact ⟨0, by omega, rfl, rfl, fun i hi => by omega⟩
  · exact Or.inl ⟨rfl, rfl, rfl⟩
/-- all calls, once the texts are read alike -/
theorem all_O {N : Nat} (hN : 4000 ≤ N) (o3 : O_3 (Inv LX) (Inv LX) N) : AllO (Inv LX) (Inv LX) N := ⟨o_0, o_1 hN, o_2, o3, o_4, o_5, o_6 hN, o_7 hN, o_8 hN, o_9 hN, o_10 hN, o_11 hN, o_12 hN, o_13 hN, o_14 hN, o_15 LX_ok hN, o_16 LX_ok hN, o_17 LX_ok hN, o_18 LX_ok hN, o_19 LX_ok hN, o_20 LX_ok hN, o_21 LX_ok hN, o_22 LX_ok hN, o_23 LX_ok hN, o_24 LX_ok hN, o_25 LX_ok hN, o_26 LX_ok hN, o_27 LX_ok hN, o_28 LX_ok hN, o_29 LX_ok hN, o_30 LX_ok hN, o_31 LX_ok hN, o_32 LX_ok hN, o_33 hN, o_34 LX_ok hN, o_35 LX_ok hN, o_36 hN, o_37, o_38, o_39 hN, o_40 hN, o_41 hN, o_42 hN, o_43 hN, o_44 hN, o_45 hN, o_46 hN⟩
/-- the law's function answers 1, once the texts are read alike -/
theorem law_1 {N : Nat} (hN : 4000 ≤ N) (o3 : O_3 (Inv LX) (Inv LX) N) {L : Nat} {xs : Nat → Int32} (hL : L ≤ 3072) : ∃ (N : Nat) (im2 M' : Mem), f_m_copy_130_131 N im1 = some im2 ∧ f_law (L, xs) N im2 = some (1, M') := by
  obtain ⟨Mf, h⟩ := law_go (S := (L, xs)) (all_O hN o3) hL N 0 _ im_inv (by omega) (show L < 0 + 6 * N by omega)
  exact ⟨N, _, Mf, m_copy_a N (by omega) im1, h⟩
