/-! The class reads products and sums. -/
theorem Oc.mono {B : Nat → Nat} {n so T r r' : Nat} {OkP : Nat → ((Nat → Int32) → Int32) → Prop} {FlP : Nat → Nat → Prop} {M : Mem} {j sz : Nat} {o : Option Mem} (h : Oc B n so T r OkP FlP M j sz o) (hr : r ≤ r') : Oc B n so T r' OkP FlP M j sz o := by
  rcases h with h | ⟨M', j', sz', V, b1, b2, b3, b4, b5, b6, b7, b8⟩
  · exact Or.inl h
  · exact Or.inr ⟨M', j', sz', V, b1, b2, b3, b4, b5, b6.mono hr, b7, b8⟩
def OcR (B : Nat → Nat) (n so T r : Nat) (OkP : Nat → Nat → ((Nat → Int32) → Int32) → Prop) (FlP : Nat → Nat → Nat → Prop) (F : Mem → Option Mem) : Prop := ∀ (M : Mem) (j sz : Nat), He B n T M j sz → M.1 103 5 = nI (12 + so) → Oc B n so T r (OkP j) (FlP j) M j sz (F M)
def OkPr (B : Nat → Nat) (n u so T N : Nat) (x : Int32) (d j j' : Nat) (V : (Nat → Int32) → Int32) : Prop := LvOk B n u so T N x 6 j d j' V ∧ kd B n (stk B n j') ≠ 40 ∧ kd B n (stk B n j') ≠ 41
def OkSu (B : Nat → Nat) (n u so T N : Nat) (x : Int32) (d j j' : Nat) (V : (Nat → Int32) → Int32) : Prop := LvOk B n u so T N x 5 j d j' V ∧ (kd B n (stk B n j') < 38 ∨ 41 < kd B n (stk B n j'))
def OkOn (B : Nat → Nat) (n u so T N : Nat) (x : Int32) (d j j' : Nat) (V : (Nat → Int32) → Int32) : Prop := OneOk B n u so T N x j d j' V
def FlOn (B : Nat → Nat) (n u so T N : Nat) (x : Int32) (d j f jf : Nat) : Prop := OneFl B n u so T N x j d f jf
def FlLv (B : Nat → Nat) (n u so T N : Nat) (x : Int32) (lev d j f jf : Nat) : Prop := LvFl B n u so T N x lev j d f jf
section PS
variable {B : Nat → Nat} {n u so T N : Nat} {x : Int32} {M : Mem} {j sz d r : Nat} {RO : Int32 → Mem → Option Mem}
theorem Br.prod7m {f : Nat} {p : Int32} (h : Br M f p) (y z : Int32) (m : Nat) : f_r_readProduct_7 N RO (m + 1) y z M = some M := by
  rw [f_r_readProduct_7, h.t49, if_neg (show ¬ (49 : Int32) = 40 by decide), if_neg (show ¬ (49 : Int32) = 41 by decide)]
  split <;> rfl
theorem Br.sum7m {f : Nat} {p : Int32} (h : Br M f p) (y z : Int32) (m : Nat) : f_r_readSum_7 N RO (m + 1) y z M = some M := by
  rw [f_r_readSum_7, h.t49, if_neg (show ¬ (49 : Int32) = 38 by decide), if_neg (show ¬ (49 : Int32) = 39 by decide)]
  split <;> rfl
theorem oc_prod7 (hN : 4000 ≤ N) (hT : T ≤ 300) (hT2 : ∀ j, kd B n (stk B n j) ≠ 48 → j < T) (hr : 1 ≤ r) (hR : OcR B n so T r (OkOn B n u so T N x d) (FlOn B n u so T N x d) (RO (nI d))) (h5 : M.1 103 5 = nI (12 + so)) : ∀ (m t : Nat) (M1 : Mem) (j1 sz1 : Nat) (V : (Nat → Int32) → Int32), He B n T M1 j1 sz1 → CK M M1 sz → Cod (M1.1 105) sz sz1 (r + 1) V → VOk so V → LvOk B n u so T N x 6 j d j1 V → sz1 + stk B n j ≤ sz + stk B n j1 → j < j1 → t < j1 → T < m + t → Oc B n so T (r + 1) (OkPr B n u so T N x d j) (FlLv B n u so T N x 6 d j) M j sz (f_r_readProduct_7 N RO m (nI d) (nI t) M1) := by
  intro m
  induction m with
  | zero =>
    intro t M1 j1 sz1 V hH ck co vo lv l1 l2 l3 l4
    have := hH.2.2.2.1
    omega
  | succ m ih =>
    intro t M1 j1 sz1 V hH ck co vo lv l1 l2 l3 l4
    have jT := hH.2.2.2.1
    have s9 := hH.2.2.2.2.2.2.2.2
    rw [f_r_readProduct_7, if_neg (show ¬ (300 : Int32) ≤ nI t from nI_ge (b := 300) (by omega) (by decide))]
    have iA := hH.is (k := 40) (by decide)
    have iB := hH.is (k := 41) (by decide)
    by_cases a : kd B n (stk B n j1) = 40 ∨ kd B n (stk B n j1) = 41
    · have e : (if gi M1 103 7 = (40 : Int32) then f_r_readProduct_32 N RO (f_r_readProduct_7 N RO m) (nI d) (nI t) M1 else if gi M1 103 7 = (41 : Int32) then f_r_readProduct_32 N RO (f_r_readProduct_7 N RO m) (nI d) (nI t) M1 else some M1) = f_r_readProduct_32 N RO (f_r_readProduct_7 N RO m) (nI d) (nI t) M1 := by
        rcases a with a | a
        · rw [if_pos (show gi M1 103 7 = (40 : Int32) from iA.mpr a)]
        · rw [if_neg (show ¬ gi M1 103 7 = (40 : Int32) from fun e => by have := iA.mp e; omega), if_pos (show gi M1 103 7 = (41 : Int32) from iB.mpr a)]
      rw [e]
      obtain ⟨k, hk⟩ : ∃ k, kd B n (stk B n j1) = k := ⟨_, rfl⟩
      have k41 : 38 ≤ k ∧ k ≤ 41 := by omega
      have hl : 6 = rkN (k - 34) := by
        rcases (show k = 40 ∨ k = 41 by omega) with rfl | rfl <;> rfl
      have jT2 := hT2 j1 (by omega)
      have up := stk_up hT2 (j := j1) (by omega)
      obtain ⟨a1, a2⟩ := hH.adv jT2
      have ck1 : CK M1 (adM B n M1 j1) sz1 := CK.ad
      have tk : gi M1 103 7 = nI k := hH.t7.trans (by rw [hk])
      unfold f_r_readProduct_32
      rw [a1, Option.bind_some, tk, nI_1]
      rcases hR (adM B n M1 j1) (j1 + 1) sz1 a2 ((ck1.2.2.2.1 5 (by omega) (by omega) (by omega) (by omega)).trans ((ck.2.2.2.1 5 (by omega) (by omega) (by omega) (by omega)).trans h5)) with ⟨M', f, jf, b1, b2, b3⟩ | ⟨M', j', sz', V2, b1, b2, b3, b4, b5, b6, b7, b8⟩
      · left
        obtain ⟨M2, p1, p2⟩ := b2.put (nI k) 0
        obtain ⟨m', rfl⟩ : ∃ m', m = m' + 1 := ⟨m - 1, by omega⟩
        refine ⟨M2, f, jf, ?_, p2, lf_add hN hT2 (lev := 6) k41 hl lv hk (one_lf b3)⟩
        rw [b1, Option.bind_some, p1, Option.bind_some]
        exact p2.prod7m _ _ _
      · have jT3 := b2.2.2.2.1
        have s1 := b6.1
        have s2 := co.1
        obtain ⟨p1, p2⟩ := b2.put (k := k) (v := 0) (by omega) (by omega) (by omega)
        have e2 : (Option.bind (RO (nI d) (adM B n M1 j1)) fun q3 => Option.bind (f_p_put (nI k) (0 : Int32) q3) fun q4 => f_r_readProduct_7 N RO m (nI d) (nI (t + 1)) q4) = f_r_readProduct_7 N RO m (nI d) (nI (t + 1)) (puM M' sz' k 0) := by
          rw [b1, Option.bind_some, show (0 : Int32) = nI 0 from rfl, p1, Option.bind_some]
        rw [e2]
        have c1 : CK M1 (puM M' sz' k 0) sz1 := (ck1.tr b5 (Nat.le_refl _)).tr CK.pu (by omega)
        refine ih (t + 1) (puM M' sz' k 0) j' (sz' + 1) (fun e => cou k (V e) (V2 e)) p2 (ck.tr c1 (by omega)) ?_ (vo.bin k41 b7) (lv_add hN hT hT2 (lev := 6) k41 hl lv hk vo (one_lv hN b8)) (by omega) (by omega) (by omega) (by omega)
        exact Cod.bin (co.cong (fun i _ i2 => c1.1 i i2)) (b6.cong (fun i _ i2 => (CK.pu (M := M') (sz := sz') (k := k) (v := 0)).1 i i2)) (Nat.le_refl _) (Nat.le_refl _) (by omega) (cou k) (by omega) puM_c (fun M p hp h => op_cou2 k41 M p hp h) (by omega) (by omega) (by omega)
    · right
      refine ⟨M1, j1, sz1, V, ?_, hH, l1, l2, ck, co, vo, lv, ?_⟩
      · rw [if_neg (show ¬ gi M1 103 7 = (40 : Int32) from fun e => by have := iA.mp e; omega), if_neg (show ¬ gi M1 103 7 = (41 : Int32) from fun e => by have := iB.mp e; omega)]
      · omega
theorem oc_prod (hN : 4000 ≤ N) (hT : T ≤ 300) (hT2 : ∀ j, kd B n (stk B n j) ≠ 48 → j < T) (hr : 1 ≤ r) (hR : OcR B n so T r (OkOn B n u so T N x d) (FlOn B n u so T N x d) (RO (nI d))) : OcR B n so T (r + 1) (OkPr B n u so T N x d) (FlLv B n u so T N x 6 d) (f_r_readProduct N RO (nI d)) := by
  intro M j sz hH h5
  unfold f_r_readProduct
  rcases hR M j sz hH h5 with ⟨M', f, jf, b1, b2, b3⟩ | ⟨M', j', sz', V2, b1, b2, b3, b4, b5, b6, b7, b8⟩
  · left
    obtain ⟨k, e⟩ : ∃ k, N = k + 1 := ⟨N - 1, by omega⟩
    refine ⟨M', f, jf, ?_, b2, lf_up (one_lf b3)⟩
    have b1' : RO (nI d) M = some M' := b1
    rw [b1', Option.bind_some]
    exact b2.prod7 hN _ _
  · have b1' : RO (nI d) M = some M' := b1
    rw [b1', Option.bind_some]
    have jT := b2.2.2.2.1
    exact oc_prod7 (u := u) (x := x) hN hT hT2 hr hR h5 N 0 M' j' sz' V2 b2 b5 (b6.mono (by omega)) b7 (lv_up (one_lv hN b8)) b3 b4 (by omega) (by omega)
theorem oc_sum7 (hN : 4000 ≤ N) (hT : T ≤ 300) (hT2 : ∀ j, kd B n (stk B n j) ≠ 48 → j < T) (hr : 1 ≤ r) (hR : OcR B n so T r (OkPr B n u so T N x d) (FlLv B n u so T N x 6 d) (f_r_readProduct N RO (nI d))) (h5 : M.1 103 5 = nI (12 + so)) : ∀ (m t : Nat) (M1 : Mem) (j1 sz1 : Nat) (V : (Nat → Int32) → Int32), He B n T M1 j1 sz1 → CK M M1 sz → Cod (M1.1 105) sz sz1 (r + 1) V → VOk so V → LvOk B n u so T N x 5 j d j1 V → kd B n (stk B n j1) ≠ 40 → kd B n (stk B n j1) ≠ 41 → sz1 + stk B n j ≤ sz + stk B n j1 → j < j1 → t < j1 → T < m + t → Oc B n so T (r + 1) (OkSu B n u so T N x d j) (FlLv B n u so T N x 5 d j) M j sz (f_r_readSum_7 N RO m (nI d) (nI t) M1) := by
  intro m
  induction m with
  | zero =>
    intro t M1 j1 sz1 V hH ck co vo lv x1 x2 l1 l2 l3 l4
    have := hH.2.2.2.1
    omega
  | succ m ih =>
    intro t M1 j1 sz1 V hH ck co vo lv x1 x2 l1 l2 l3 l4
    have jT := hH.2.2.2.1
    have s9 := hH.2.2.2.2.2.2.2.2
    rw [f_r_readSum_7, if_neg (show ¬ (300 : Int32) ≤ nI t from nI_ge (b := 300) (by omega) (by decide))]
    have iA := hH.is (k := 38) (by decide)
    have iB := hH.is (k := 39) (by decide)
    by_cases a : kd B n (stk B n j1) = 38 ∨ kd B n (stk B n j1) = 39
    · have e : (if gi M1 103 7 = (38 : Int32) then f_r_readSum_32 N RO (f_r_readSum_7 N RO m) (nI d) (nI t) M1 else if gi M1 103 7 = (39 : Int32) then f_r_readSum_32 N RO (f_r_readSum_7 N RO m) (nI d) (nI t) M1 else some M1) = f_r_readSum_32 N RO (f_r_readSum_7 N RO m) (nI d) (nI t) M1 := by
        rcases a with a | a
        · rw [if_pos (show gi M1 103 7 = (38 : Int32) from iA.mpr a)]
        · rw [if_neg (show ¬ gi M1 103 7 = (38 : Int32) from fun e => by have := iA.mp e; omega), if_pos (show gi M1 103 7 = (39 : Int32) from iB.mpr a)]
      rw [e]
      obtain ⟨k, hk⟩ : ∃ k, kd B n (stk B n j1) = k := ⟨_, rfl⟩
      have k41 : 38 ≤ k ∧ k ≤ 41 := by omega
      have hl : 5 = rkN (k - 34) := by
        rcases (show k = 38 ∨ k = 39 by omega) with rfl | rfl <;> rfl
      have jT2 := hT2 j1 (by omega)
      have up := stk_up hT2 (j := j1) (by omega)
      obtain ⟨a1, a2⟩ := hH.adv jT2
      have ck1 : CK M1 (adM B n M1 j1) sz1 := CK.ad
      have tk : gi M1 103 7 = nI k := hH.t7.trans (by rw [hk])
      unfold f_r_readSum_32
      rw [a1, Option.bind_some, tk, nI_1]
      rcases hR (adM B n M1 j1) (j1 + 1) sz1 a2 ((ck1.2.2.2.1 5 (by omega) (by omega) (by omega) (by omega)).trans ((ck.2.2.2.1 5 (by omega) (by omega) (by omega) (by omega)).trans h5)) with ⟨M', f, jf, b1, b2, b3⟩ | ⟨M', j', sz', V2, b1, b2, b3, b4, b5, b6, b7, b8⟩
      · left
        obtain ⟨M2, p1, p2⟩ := b2.put (nI k) 0
        obtain ⟨m', rfl⟩ : ∃ m', m = m' + 1 := ⟨m - 1, by omega⟩
        refine ⟨M2, f, jf, ?_, p2, lf_add hN hT2 (lev := 5) k41 hl lv hk (id b3)⟩
        rw [b1, Option.bind_some, p1, Option.bind_some]
        exact p2.sum7m _ _ _
      · have jT3 := b2.2.2.2.1
        have s1 := b6.1
        have s2 := co.1
        obtain ⟨p1, p2⟩ := b2.put (k := k) (v := 0) (by omega) (by omega) (by omega)
        have e2 : (Option.bind (f_r_readProduct N RO (nI d) (adM B n M1 j1)) fun q3 => Option.bind (f_p_put (nI k) (0 : Int32) q3) fun q4 => f_r_readSum_7 N RO m (nI d) (nI (t + 1)) q4) = f_r_readSum_7 N RO m (nI d) (nI (t + 1)) (puM M' sz' k 0) := by
          rw [b1, Option.bind_some, show (0 : Int32) = nI 0 from rfl, p1, Option.bind_some]
        rw [e2]
        have c1 : CK M1 (puM M' sz' k 0) sz1 := (ck1.tr b5 (Nat.le_refl _)).tr CK.pu (by omega)
        refine ih (t + 1) (puM M' sz' k 0) j' (sz' + 1) (fun e => cou k (V e) (V2 e)) p2 (ck.tr c1 (by omega)) ?_ (vo.bin k41 b7) (lv_add hN hT hT2 (lev := 5) k41 hl lv hk vo (b8.1)) b8.2.1 b8.2.2 (by omega) (by omega) (by omega) (by omega)
        exact Cod.bin (co.cong (fun i _ i2 => c1.1 i i2)) (b6.cong (fun i _ i2 => (CK.pu (M := M') (sz := sz') (k := k) (v := 0)).1 i i2)) (Nat.le_refl _) (Nat.le_refl _) (by omega) (cou k) (by omega) puM_c (fun M p hp h => op_cou2 k41 M p hp h) (by omega) (by omega) (by omega)
    · right
      refine ⟨M1, j1, sz1, V, ?_, hH, l1, l2, ck, co, vo, lv, ?_⟩
      · rw [if_neg (show ¬ gi M1 103 7 = (38 : Int32) from fun e => by have := iA.mp e; omega), if_neg (show ¬ gi M1 103 7 = (39 : Int32) from fun e => by have := iB.mp e; omega)]
      · omega
theorem oc_sum (hN : 4000 ≤ N) (hT : T ≤ 300) (hT2 : ∀ j, kd B n (stk B n j) ≠ 48 → j < T) (hr : 1 ≤ r) (hR : OcR B n so T r (OkPr B n u so T N x d) (FlLv B n u so T N x 6 d) (f_r_readProduct N RO (nI d))) : OcR B n so T (r + 1) (OkSu B n u so T N x d) (FlLv B n u so T N x 5 d) (f_r_readSum N RO (nI d)) := by
  intro M j sz hH h5
  unfold f_r_readSum
  rcases hR M j sz hH h5 with ⟨M', f, jf, b1, b2, b3⟩ | ⟨M', j', sz', V2, b1, b2, b3, b4, b5, b6, b7, b8⟩
  · left
    obtain ⟨k, e⟩ : ∃ k, N = k + 1 := ⟨N - 1, by omega⟩
    refine ⟨M', f, jf, ?_, b2, lf_up (id b3)⟩
    have b1' : f_r_readProduct N RO (nI d) M = some M' := b1
    rw [b1', Option.bind_some]
    exact b2.sum7 hN _ _
  · have b1' : f_r_readProduct N RO (nI d) M = some M' := b1
    rw [b1', Option.bind_some]
    have jT := b2.2.2.2.1
    exact oc_sum7 (u := u) (x := x) hN hT hT2 hr hR h5 N 0 M' j' sz' V2 b2 b5 (b6.mono (by omega)) b7 (lv_up (b8.1)) b8.2.1 b8.2.2 b3 b4 (by omega) (by omega)
end PS
