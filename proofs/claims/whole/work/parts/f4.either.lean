/-! The class reads what and and or join. -/
def eiZ (K2 : Int32 → Mem → Option Mem) (i : Nat) (M : Mem) : Option Mem := if nI i ≤ (0 : Int32) then K2 (nI (i + 1)) M else Option.bind (f_p_put (24 : Int32) (0 : Int32) M) fun q => K2 (nI (i + 1)) q
section EITHER
variable {B : Nat → Nat} {n u T N : Nat} {M : Mem} {j sz : Nat} {RO : Int32 → Mem → Option Mem} {K2 : Int32 → Mem → Option Mem}
theorem ei36_no {m i : Nat} {y : Int32} {M : Mem} (h : ¬ gi M 103 7 = (25 : Int32)) : f_r_readEither_36 N RO K2 (m + 1) (nI i) y M = eiZ K2 i M := by
  unfold eiZ
  rw [f_r_readEither_36, if_neg h, nI_1]
  split <;> rfl
theorem oc_36 (hN : 4000 ≤ N) (hT : T ≤ 300) (hT2 : ∀ j, kd B n (stk B n j) ≠ 48 → j < T) (hA : OcR B n 0 T 20 (fun j => OkQ B n u T N 3 0 j) (fun j => QFl B n u T N 3 0 j) (f_r_readAsk N RO)) (i : Nat) (h5 : M.1 103 5 = nI 12) : ∀ (m t : Nat) (M1 : Mem) (j1 sz1 : Nat) (V : (Nat → Int32) → Int32), He B n T M1 j1 sz1 → CK M M1 sz → Cod (M1.1 105) sz sz1 21 V → VOk 0 V → OkQ B n u T N 2 0 j j1 V → sz1 + stk B n j ≤ sz + stk B n j1 → j < j1 → t < j1 → T + 1 < m + t → (∃ Mb f jf, f_r_readEither_36 N RO K2 m (nI i) (nI t) M1 = eiZ K2 i Mb ∧ Br Mb f (nI (stk B n jf)) ∧ QFl B n u T N 2 0 j f jf) ∨ (∃ M2 j2 sz2 V2, f_r_readEither_36 N RO K2 m (nI i) (nI t) M1 = eiZ K2 i M2 ∧ He B n T M2 j2 sz2 ∧ sz2 + stk B n j ≤ sz + stk B n j2 ∧ j < j2 ∧ CK M M2 sz ∧ Cod (M2.1 105) sz sz2 21 V2 ∧ VOk 0 V2 ∧ OkQ B n u T N 2 0 j j2 V2 ∧ kd B n (stk B n j2) ≠ 25) := by
  intro m
  induction m with
  | zero =>
    intro t M1 j1 sz1 V hH ck co vo qo l1 l2 l3 l4
    have := hH.2.2.2.1
    omega
  | succ m ih =>
    intro t M1 j1 sz1 V hH ck co vo qo l1 l2 l3 l4
    have jT := hH.2.2.2.1
    have s9 := hH.2.2.2.2.2.2.2.2
    have i25 := hH.is (k := 25) (by decide)
    by_cases a : kd B n (stk B n j1) = 25
    · have jT2 := hT2 j1 (by omega)
      have up := stk_up hT2 (j := j1) (by omega)
      obtain ⟨a1, a2⟩ := hH.adv jT2
      have ck1 : CK M1 (adM B n M1 j1) sz1 := CK.ad
      obtain ⟨m', rfl⟩ : ∃ m', m = m' + 1 := ⟨m - 1, by omega⟩
      rw [f_r_readEither_36, if_neg (show ¬ (300 : Int32) ≤ nI t from nI_ge (b := 300) (by omega) (by decide)), if_pos (show gi M1 103 7 = (25 : Int32) from i25.mpr a), a1, Option.bind_some, nI_1]
      rcases hA (adM B n M1 j1) (j1 + 1) sz1 a2 ((ck1.2.2.2.1 5 (by omega) (by omega) (by omega) (by omega)).trans ((ck.2.2.2.1 5 (by omega) (by omega) (by omega) (by omega)).trans h5)) with ⟨M', f, jf, b1, b2, b3⟩ | ⟨M', j', sz', V2, b1, b2, b3, b4, b5, b6, b7, b8, b9, b10⟩
      · left
        obtain ⟨M2, p1, p2⟩ := b2.put 25 0
        refine ⟨M2, f, jf, ?_, p2, q_addF hN hT2 (Or.inr ⟨rfl, rfl⟩) qo.1 a b3⟩
        rw [b1, Option.bind_some, p1, Option.bind_some]
        exact ei36_no (by rw [p2.t49]; decide)
      · have jT3 := b2.2.2.2.1
        have s1 := b6.1
        have s2 := co.1
        obtain ⟨p1, p2⟩ := b2.put (k := 25) (v := 0) (by omega) (by omega) (by omega)
        have p1' : f_p_put (25 : Int32) (0 : Int32) M' = some (puM M' sz' 25 0) := p1
        rw [b1, Option.bind_some, p1', Option.bind_some]
        have c1 : CK M1 (puM M' sz' 25 0) sz1 := (ck1.tr b5 (Nat.le_refl _)).tr CK.pu (by omega)
        have vt : VT (fun e => f_l_compared (nI 25) (V e) (V2 e) M0) := VT.bin (Or.inr rfl) qo.2.1 b9
        refine ih (t + 1) (puM M' sz' 25 0) j' (sz' + 1) (fun e => f_l_compared (nI 25) (V e) (V2 e) M0) p2 (ck.tr c1 (by omega)) ?_ (VOk.cmp vt vo b7) ⟨q_add hN hT hT2 (Or.inr ⟨rfl, rfl⟩) qo.1 a qo.2.1 b9 b8, vt, b10⟩ (by omega) (by omega) (by omega) (by omega)
        exact Cod.bin (co.cong (fun i _ i2 => c1.1 i i2)) (b6.cong (fun i _ i2 => (CK.pu (M := M') (sz := sz') (k := 25) (v := 0)).1 i i2)) (Nat.le_refl _) (by omega) (by omega) (fun x y => f_l_compared (nI 25) x y M0) (by omega) puM_c (fun M p hp h => op_cmp2 (by omega) M p hp h) (by omega) (by omega) (by omega)
    · right
      exact ⟨M1, j1, sz1, V, ei36_no (fun e => a (i25.mp e)), hH, l1, l2, ck, co, vo, qo, a⟩
/-- one group, from its ask on -/
theorem oc_grp (hN : 4000 ≤ N) (hT : T ≤ 300) (hT2 : ∀ j, kd B n (stk B n j) ≠ 48 → j < T) (hA : OcR B n 0 T 20 (fun j => OkQ B n u T N 3 0 j) (fun j => QFl B n u T N 3 0 j) (f_r_readAsk N RO)) (i : Nat) (hH : He B n T M j sz) (h5 : M.1 103 5 = nI 12) : (∃ Mb f jf, (Option.bind (f_r_readAsk N RO M) fun q => f_r_readEither_36 N RO K2 N (nI i) (0 : Int32) q) = eiZ K2 i Mb ∧ Br Mb f (nI (stk B n jf)) ∧ QFl B n u T N 2 0 j f jf) ∨ (∃ M2 j2 sz2 V2, (Option.bind (f_r_readAsk N RO M) fun q => f_r_readEither_36 N RO K2 N (nI i) (0 : Int32) q) = eiZ K2 i M2 ∧ He B n T M2 j2 sz2 ∧ sz2 + stk B n j ≤ sz + stk B n j2 ∧ j < j2 ∧ CK M M2 sz ∧ Cod (M2.1 105) sz sz2 21 V2 ∧ VOk 0 V2 ∧ OkQ B n u T N 2 0 j j2 V2 ∧ kd B n (stk B n j2) ≠ 25) := by
  rcases hA M j sz hH h5 with ⟨M', f, jf, b1, b2, b3⟩ | ⟨M', j', sz', V2, b1, b2, b3, b4, b5, b6, b7, b8, b9, b10⟩
  · left
    obtain ⟨k, e⟩ : ∃ k, N = k + 1 := ⟨N - 1, by omega⟩
    refine ⟨M', f, jf, ?_, b2, qf_up b3⟩
    rw [b1, Option.bind_some]
    have := ei36_no (N := N) (RO := RO) (K2 := K2) (m := k) (i := i) (y := 0) (M := M') (by rw [b2.t49]; decide)
    rw [← e] at this
    exact this
  · rw [b1, Option.bind_some]
    have jT := b2.2.2.2.1
    exact oc_36 (u := u) (RO := RO) (K2 := K2) hN hT hT2 hA i h5 N 0 M' j' sz' V2 b2 b5 (b6.mono (by omega)) b7 ⟨q_up b8, b9, b10⟩ b3 b4 (by omega) (by omega)
def OkE (B : Nat → Nat) (n u T N j j' : Nat) (V : (Nat → Int32) → Int32) : Prop := OkQ B n u T N 1 0 j j' V ∧ kd B n (stk B n j') ≠ 24 ∧ kd B n (stk B n j') ≠ 25
theorem oc_ei2 (hN : 4000 ≤ N) (hT : T ≤ 300) (hT2 : ∀ j, kd B n (stk B n j) ≠ 48 → j < T) (hA : OcR B n 0 T 20 (fun j => OkQ B n u T N 3 0 j) (fun j => QFl B n u T N 3 0 j) (f_r_readAsk N RO)) (h5 : M.1 103 5 = nI 12) : ∀ (m i : Nat) (M1 : Mem) (j1 sz1 : Nat) (V : (Nat → Int32) → Int32), 1 ≤ i → He B n T M1 j1 sz1 → CK M M1 sz → Cod (M1.1 105) sz sz1 22 V → VOk 0 V → OkQ B n u T N 1 0 j j1 V → kd B n (stk B n j1) ≠ 25 → sz1 + stk B n j ≤ sz + stk B n j1 → j < j1 → i ≤ j1 → T + 1 < m + i → Oc B n 0 T 22 (OkE B n u T N j) (QFl B n u T N 1 0 j) M j sz (f_r_readEither_2 N RO m (nI i) M1) := by
  intro m
  induction m with
  | zero =>
    intro i M1 j1 sz1 V h1 hH ck co vo qo n25 l1 l2 l3 l4
    have := hH.2.2.2.1
    omega
  | succ m ih =>
    intro i M1 j1 sz1 V h1 hH ck co vo qo n25 l1 l2 l3 l4
    have jT := hH.2.2.2.1
    have s9 := hH.2.2.2.2.2.2.2.2
    have i24 := hH.is (k := 24) (by decide)
    have ni : ¬ nI i = (0 : Int32) := fun e => by have := (nI_eq (b := 0) (by omega) (by decide)).mp e; omega
    have nle : ¬ nI i ≤ (0 : Int32) := nI_ge (a := 0) (by omega) (by omega)
    by_cases a : kd B n (stk B n j1) = 24
    · have jT2 := hT2 j1 (by omega)
      have up := stk_up hT2 (j := j1) (by omega)
      obtain ⟨a1, a2⟩ := hH.adv jT2
      have ck1 : CK M1 (adM B n M1 j1) sz1 := CK.ad
      obtain ⟨m', rfl⟩ : ∃ m', m = m' + 1 := ⟨m - 1, by omega⟩
      rw [f_r_readEither_2, if_neg (show ¬ (300 : Int32) ≤ nI i from nI_ge (b := 300) (by omega) (by decide)), if_neg ni, if_pos (show gi M1 103 7 = (24 : Int32) from i24.mpr a), if_neg nle, a1, Option.bind_some]
      rcases oc_grp (u := u) (RO := RO) (K2 := f_r_readEither_2 N RO (m' + 1)) hN hT hT2 hA i a2 ((ck1.2.2.2.1 5 (by omega) (by omega) (by omega) (by omega)).trans ((ck.2.2.2.1 5 (by omega) (by omega) (by omega) (by omega)).trans h5)) with ⟨M', f, jf, b1, b2, b3⟩ | ⟨M', j', sz', V2, b1, b2, b3, b4, b5, b6, b7, b8, b9⟩
      · left
        rw [b1]
        unfold eiZ
        obtain ⟨M2, p1, p2⟩ := b2.put 24 0
        refine ⟨M2, f, jf, ?_, p2, q_addF hN hT2 (Or.inl ⟨rfl, rfl⟩) qo.1 a b3⟩
        rw [if_neg nle, p1, Option.bind_some]
        exact p2.ei2 m' (fun e => by have := (nI_eq (b := 0) (by omega) (by decide)).mp e; omega)
      · rw [b1]
        unfold eiZ
        have jT3 := b2.2.2.2.1
        have s1 := b6.1
        have s2 := co.1
        obtain ⟨p1, p2⟩ := b2.put (k := 24) (v := 0) (by omega) (by omega) (by omega)
        have p1' : f_p_put (24 : Int32) (0 : Int32) M' = some (puM M' sz' 24 0) := p1
        rw [if_neg nle, p1', Option.bind_some]
        have c1 : CK M1 (puM M' sz' 24 0) sz1 := (ck1.tr b5 (Nat.le_refl _)).tr CK.pu (by omega)
        have vt : VT (fun e => f_l_compared (nI 24) (V e) (V2 e) M0) := VT.bin (Or.inl rfl) qo.2.1 b8.2.1
        refine ih (i + 1) (puM M' sz' 24 0) j' (sz' + 1) (fun e => f_l_compared (nI 24) (V e) (V2 e) M0) (by omega) p2 (ck.tr c1 (by omega)) ?_ (VOk.cmp vt vo b7) ⟨q_add hN hT hT2 (Or.inl ⟨rfl, rfl⟩) qo.1 a qo.2.1 b8.2.1 b8.1, vt, b8.2.2⟩ b9 (by omega) (by omega) (by omega) (by omega)
        exact Cod.bin (co.cong (fun i _ i2 => c1.1 i i2)) (b6.cong (fun i _ i2 => (CK.pu (M := M') (sz := sz') (k := 24) (v := 0)).1 i i2)) (Nat.le_refl _) (by omega) (by omega) (fun x y => f_l_compared (nI 24) x y M0) (by omega) puM_c (fun M p hp h => op_cmp2 (by omega) M p hp h) (by omega) (by omega) (by omega)
    · right
      refine ⟨M1, j1, sz1, V, ?_, hH, l1, l2, ck, co, vo, qo, a, n25⟩
      rw [f_r_readEither_2, if_neg ni, if_neg (show ¬ gi M1 103 7 = (24 : Int32) from fun e => a (i24.mp e))]
      split <;> rfl
theorem oc_ei (hN : 4000 ≤ N) (hT : T ≤ 300) (hT2 : ∀ j, kd B n (stk B n j) ≠ 48 → j < T) (hA : OcR B n 0 T 20 (fun j => OkQ B n u T N 3 0 j) (fun j => QFl B n u T N 3 0 j) (f_r_readAsk N RO)) : OcR B n 0 T 22 (OkE B n u T N) (fun j => QFl B n u T N 1 0 j) (f_r_readEither N RO) := by
  intro M j sz hH h5
  unfold f_r_readEither
  obtain ⟨k, e⟩ : ∃ k, N = k + 2 := ⟨N - 2, by omega⟩
  have st : f_r_readEither_2 N RO N (0 : Int32) M = Option.bind (f_r_readAsk N RO M) fun q => f_r_readEither_36 N RO (f_r_readEither_2 N RO (k + 1)) N (nI 0) (0 : Int32) q := by
    have : ∀ F, F = k + 1 + 1 → f_r_readEither_2 N RO F (0 : Int32) M = Option.bind (f_r_readAsk N RO M) fun q => f_r_readEither_36 N RO (f_r_readEither_2 N RO (k + 1)) N (nI 0) (0 : Int32) q := by
      intro F hF
      rw [hF, f_r_readEither_2, if_neg (show ¬ (300 : Int32) ≤ 0 by decide), if_pos (show (0 : Int32) = 0 from rfl), if_pos (show (0 : Int32) ≤ 0 by decide)]
      rfl
    exact this N (by omega)
  rw [st]
  rcases oc_grp (u := u) (RO := RO) (K2 := f_r_readEither_2 N RO (k + 1)) hN hT hT2 hA 0 hH h5 with ⟨M', f, jf, b1, b2, b3⟩ | ⟨M', j', sz', V2, b1, b2, b3, b4, b5, b6, b7, b8, b9⟩
  · left
    rw [b1]
    unfold eiZ
    refine ⟨M', f, jf, ?_, b2, qf_up b3⟩
    rw [if_pos (show nI 0 ≤ (0 : Int32) by decide)]
    exact b2.ei2 k (by decide)
  · rw [b1]
    unfold eiZ
    rw [if_pos (show nI 0 ≤ (0 : Int32) by decide)]
    have jT3 := b2.2.2.2.1
    exact oc_ei2 (u := u) (RO := RO) hN hT hT2 hA h5 (k + 1) 1 M' j' sz' V2 (by omega) b2 b5 (b6.mono (by omega)) b7 ⟨q_up b8.1, b8.2⟩ b9 b3 b4 (by omega) (by omega)
/-- a question, whole -/
theorem oc_eall (hN : 4000 ≤ N) (hT : T ≤ 300) (hT2 : ∀ j, kd B n (stk B n j) ≠ 48 → j < T) : OcR B n 0 T 22 (OkE B n u T N) (fun j => QFl B n u T N 1 0 j) (f_r_readEither N (f_r_readOne N 12)) :=
  oc_ei hN hT hT2 (oc_ask hN hT hT2 (fun f p => ro_b N 11 f p) (fun d hd => oc_all hN hT hT2 (by omega) hd))
end EITHER
