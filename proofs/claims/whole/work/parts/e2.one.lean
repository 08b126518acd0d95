/-! The class reads one: outcomes. -/
def CK (M M' : Mem) (sz : Nat) : Prop := (∀ i, i < sz → M'.1 105 i = M.1 105 i) ∧ (∀ k, k ≠ 103 → k ≠ 104 → k ≠ 105 → M'.1 k = M.1 k) ∧ (∀ i, i ≠ 3 → M'.1 104 i = M.1 104 i) ∧ (∀ i, i ≠ 1 → i ≠ 2 → i ≠ 6 → i ≠ 7 → M'.1 103 i = M.1 103 i) ∧ M'.2 = M.2
theorem CK.tr {M M1 M2 : Mem} {sz sz' : Nat} (h : CK M M1 sz) (g : CK M1 M2 sz') (hs : sz ≤ sz') : CK M M2 sz := ⟨fun i hi => (g.1 i (by omega)).trans (h.1 i hi), fun k a b c => (g.2.1 k a b c).trans (h.2.1 k a b c), fun i a => (g.2.2.1 i a).trans (h.2.2.1 i a), fun i a b c d => (g.2.2.2.1 i a b c d).trans (h.2.2.2.1 i a b c d), g.2.2.2.2.trans h.2.2.2.2⟩
theorem CK.rf {M : Mem} {sz : Nat} : CK M M sz := ⟨fun _ _ => rfl, fun _ _ _ _ => rfl, fun _ _ => rfl, fun _ _ _ _ _ => rfl, rfl⟩
theorem CK.ad {B : Nat → Nat} {n j sz : Nat} {M : Mem} : CK M (adM B n M j) sz := by
  unfold adM
  refine ⟨fun i hi => ?_, fun k a b c => ?_, fun i a => ?_, fun i a b c d => ?_, rfl⟩
  · rw [si_at, if_neg (by omega), si_at, if_neg (by omega)]
  · rw [si_1, if_neg a, si_1, if_neg a]
  · rw [si_at, if_neg (by omega), si_at, if_neg (by omega)]
  · rw [si_at, if_neg (by omega), si_at, if_neg (by omega)]
theorem CK.pu {M : Mem} {sz k v : Nat} : CK M (puM M sz k v) sz := by
  unfold puM
  refine ⟨fun i hi => ?_, fun k a b c => ?_, fun i a => ?_, fun i a b c d => ?_, rfl⟩
  · rw [si_at, if_neg (by omega), si_at, if_neg (by omega)]
  · rw [si_1, if_neg b, si_1, if_neg c]
  · rw [si_at, if_neg (by omega), si_at, if_neg (by omega)]
  · rw [si_at, if_neg (by omega), si_at, if_neg (by omega)]
theorem puM_c {M : Mem} {sz k v : Nat} : (puM M sz k v).1 105 sz = nI (k + 64 * v) := by
  unfold puM
  rw [si_at, if_neg (by omega), si_at, if_pos ⟨rfl, rfl⟩]
/-- either a fault that the rules have too, or a value that they have too -/
def Oc (B : Nat → Nat) (n so T r : Nat) (OkP : Nat → ((Nat → Int32) → Int32) → Prop) (FlP : Nat → Nat → Prop) (M : Mem) (j sz : Nat) (o : Option Mem) : Prop := (∃ M' f jf, o = some M' ∧ Br M' f (nI (stk B n jf)) ∧ FlP f jf) ∨ ∃ M' j' sz' V, o = some M' ∧ He B n T M' j' sz' ∧ sz' + stk B n j ≤ sz + stk B n j' ∧ j < j' ∧ CK M M' sz ∧ Cod (M'.1 105) sz sz' r V ∧ VOk so V ∧ OkP j' V
section ONE
variable {B : Nat → Nat} {n u so T N : Nat} {x : Int32} {M : Mem} {j sz d : Nat} {RO : Int32 → Mem → Option Mem}
theorem stk_up (hT2 : ∀ j, kd B n (stk B n j) ≠ 48 → j < T) (hk : kd B n (stk B n j) ≠ 48) : stk B n j < stk B n (j + 1) := by
  refine stk_gt (Nat.lt_of_not_le (fun e => hk ?_))
  unfold kd
  rw [if_pos e]
theorem oc_num (hN : 4000 ≤ N) (hT : T ≤ 300) (hT2 : ∀ j, kd B n (stk B n j) ≠ 48 → j < T) (h : He B n T M j sz) (hk : kd B n (stk B n j) = 33) {y : Int32} : Oc B n so T 1 (OneOk B n u so T N x j d) (OneFl B n u so T N x j d) M j sz (f_r_readOneB N RO y M) := by
  unfold f_r_readOneB
  rw [if_pos (show gi M 103 7 = (33 : Int32) from (h.is (k := 33) (by decide)).mpr hk)]
  obtain ⟨n1, n2, n3⟩ := h.num hT2 (a := 0) (b := 9999) (by omega) (by omega)
  have up := stk_up hT2 (j := j) (by omega)
  have nl := nm_le B n (stk B n j)
  have s9 := h.2.2.2.2.2.2.2.2
  by_cases b : nm B n (stk B n j) ≤ 9999
  · right
    obtain ⟨a1, a2⟩ := n1 hk (by omega) b
    obtain ⟨p1, p2⟩ := a2.put (k := 33) (v := nm B n (stk B n j)) (by omega) (by omega) (by omega)
    refine ⟨puM (adM B n M j) sz 33 (nm B n (stk B n j)), j + 1, sz + 1, fun _ => nI (nm B n (stk B n j)), ?_, p2, by omega, by omega, CK.ad.tr CK.pu (Nat.le_refl _), Cod.num (by omega) puM_c, VOk.num nl, one_num hN hT hT2 hk b⟩
    rw [show (0 : Int32) = nI 0 from rfl, show (9999 : Int32) = nI 9999 from rfl, a1, Option.bind_some]
    show (Option.bind (f_p_put (nI 33) (nI (nm B n (stk B n j))) (adM B n M j)) fun q2 => some q2) = _
    rw [p1]
    rfl
  · left
    obtain ⟨M', a1, a2⟩ := n2 hk (Or.inr (by omega))
    obtain ⟨M2, p1, p2⟩ := a2.put 33 (nI 0)
    refine ⟨M2, 2, j, ?_, p2, one_big hk (by omega)⟩
    rw [show (0 : Int32) = nI 0 from rfl, show (9999 : Int32) = nI 9999 from rfl, a1, Option.bind_some]
    show (Option.bind (f_p_put 33 (nI 0) M') fun q2 => some q2) = _
    rw [p1]
    rfl
end ONE
