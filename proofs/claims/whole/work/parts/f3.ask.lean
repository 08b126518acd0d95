/-! The class reads a question. -/
theorem bd01 {v : Int32} (h : v = 0 ∨ v = 1) : bdI v := by
  rcases h with rfl | rfl
  · exact bdI_n (n := 0) (by omega)
  · exact bdI_n (n := 1) (by omega)
theorem VOk.of {s : Nat} {V : (Nat → Int32) → Int32} (h : VT V) (g : ∀ e e', (∀ i, NmOk s i → e i = e' i) → V e = V e') : VOk s V := ⟨fun e _ => bd01 (h e), g⟩
theorem VT.cmp {k : Nat} {V V2 : (Nat → Int32) → Int32} (hk : (34 ≤ k ∧ k ≤ 37) ∨ k = 46 ∨ k = 47) : VT (fun e => f_l_compared (nI k) (V e) (V2 e) M0) := fun e => cmp01 hk _ _
theorem VT.not {V : (Nat → Int32) → Int32} (h : VT V) : VT (fun e => 1 - V e) := fun e => by
  show 1 - V e = 0 ∨ 1 - V e = 1
  rcases h e with q | q <;> rw [q] <;> decide
theorem VT.bin {k : Nat} {V V2 : (Nat → Int32) → Int32} (hk : k = 24 ∨ k = 25) (h : VT V) (h2 : VT V2) : VT (fun e => f_l_compared (nI k) (V e) (V2 e) M0) := fun e => by
  show f_l_compared (nI k) (V e) (V2 e) M0 = 0 ∨ f_l_compared (nI k) (V e) (V2 e) M0 = 1
  rcases h e with q | q <;> rcases h2 e with q2 | q2 <;> rcases hk with rfl | rfl <;> rw [q, q2] <;> decide
theorem VOk.cmp {s k : Nat} {V V2 : (Nat → Int32) → Int32} (ht : VT (fun e => f_l_compared (nI k) (V e) (V2 e) M0)) (h : VOk s V) (h2 : VOk s V2) : VOk s (fun e => f_l_compared (nI k) (V e) (V2 e) M0) := VOk.of ht (fun e e' he => by
  show f_l_compared (nI k) (V e) (V2 e) M0 = f_l_compared (nI k) (V e') (V2 e') M0
  rw [h.2 e e' he, h2.2 e e' he])
theorem VOk.not {s : Nat} {V : (Nat → Int32) → Int32} (ht : VT V) (h : VOk s V) : VOk s (fun e => 1 - V e) := VOk.of ht.not (fun e e' he => by
  show 1 - V e = 1 - V e'
  rw [h.2 e e' he])
def OkQ (B : Nat → Nat) (n u T N lev d j j' : Nat) (V : (Nat → Int32) → Int32) : Prop := QOk B n u T N lev d j j' V ∧ VT V ∧ (kd B n (stk B n j') < 38 ∨ 41 < kd B n (stk B n j'))
section ASK
variable {B : Nat → Nat} {n u T N : Nat} {M : Mem} {j sz : Nat} {RO : Int32 → Mem → Option Mem}
theorem q_lowF (hN : 4000 ≤ N) (hT2 : ∀ j, kd B n (stk B n j) ≠ 48 → j < T) {f jf : Nat} : ∀ K, K ≤ 8 → (∀ i, i < K → kd B n (stk B n (j + i)) = 26) → QFl B n u T N 3 K (j + K) f jf → QFl B n u T N 3 0 j f jf := by
  intro K
  induction K with
  | zero => intro _ _ h; exact h
  | succ K ih =>
    intro h1 h2 h3
    exact ih (by omega) (fun i hi => h2 i (by omega)) (q_notF hN hT2 (h2 K (by omega)) (by omega) h3)
/-- the nots behind -/
theorem oc_107 (hN : 4000 ≤ N) (hT : T ≤ 300) (hT2 : ∀ j, kd B n (stk B n j) ≠ 48 → j < T) {K j' : Nat} (hK : K ≤ 8) (h26 : ∀ i, i < K → kd B n (stk B n (j + i)) = 26) (hsz : sz ≤ stk B n j) (hj' : j + K < j') (hk : kd B n (stk B n j') < 38 ∨ 41 < kd B n (stk B n j')) : ∀ (rem t m : Nat) (M1 : Mem) (sz1 : Nat) (V : (Nat → Int32) → Int32), rem + t = K → rem < m → He B n T M1 j' sz1 → CK M M1 sz → Cod (M1.1 105) sz sz1 20 V → VOk 0 V → VT V → QOk B n u T N 3 rem (j + rem) j' V → sz1 + stk B n (j + rem) ≤ sz + stk B n j' → Oc B n 0 T 20 (OkQ B n u T N 3 0 j) (QFl B n u T N 3 0 j) M j sz (f_r_readAsk_107 N RO m (nI K) (nI t) M1) := by
  intro rem
  induction rem with
  | zero =>
    intro t m M1 sz1 V h1 h2 hH ck co vo vt qo l1
    obtain ⟨m', rfl⟩ : ∃ m', m = m' + 1 := ⟨m - 1, by omega⟩
    right
    refine ⟨M1, j', sz1, V, ?_, hH, l1, by omega, ck, co, vo, qo, vt, hk⟩
    rw [f_r_readAsk_107, if_pos (show nI K ≤ nI t from nI_le (by omega) (by omega))]
  | succ rem ih =>
    intro t m M1 sz1 V h1 h2 hH ck co vo vt qo l1
    obtain ⟨m', rfl⟩ : ∃ m', m = m' + 1 := ⟨m - 1, by omega⟩
    have up := stk_up hT2 (j := j + rem) (by rw [h26 rem (by omega)]; decide)
    have l1' : sz1 + stk B n (j + rem + 1) ≤ sz + stk B n j' := l1
    have mono : stk B n j ≤ stk B n (j + rem) := by
      have : ∀ k, k ≤ rem → stk B n j ≤ stk B n (j + k) := by
        intro k
        induction k with
        | zero => intro _; exact Nat.le_refl _
        | succ k ihk =>
          intro hk
          have a := ihk (by omega)
          have b := stk_up hT2 (j := j + k) (by rw [h26 k (by omega)]; decide)
          have b' : stk B n (j + k) < stk B n (j + (k + 1)) := b
          omega
      exact this rem (Nat.le_refl _)
    obtain ⟨p1, p2⟩ := hH.put (k := 26) (v := 0) (by omega) (by omega) (by omega)
    have p1' : f_p_put (26 : Int32) (0 : Int32) M1 = some (puM M1 sz1 26 0) := p1
    have s1 := co.1
    rw [f_r_readAsk_107, if_neg (show ¬ nI K ≤ nI t from nI_ge (by omega) (by omega)), p1', Option.bind_some, nI_1]
    refine ih (t + 1) m' (puM M1 sz1 26 0) (sz1 + 1) (fun e => 1 - V e) (by omega) (by omega) p2 (ck.tr CK.pu (by omega)) ?_ (vo.not vt) vt.not (q_not hN hT hT2 (h26 rem (by omega)) (by omega) vt qo) (by omega)
    exact Cod.un (k := 26) (co.cong (fun i _ i2 => (CK.pu (M := M1) (sz := sz1) (k := 26) (v := 0)).1 i i2)) (by omega) (fun v => 1 - v) (by omega) puM_c (fun M p hp h => op_not M p hp h) (by decide) (by decide) (by decide)
theorem w_cm : ∀ k, k < 49 → ((¬ f_w_within (nI k) 34 37 M0 = 0) ↔ (34 ≤ k ∧ k ≤ 37)) := by decide +kernel
/-- behind the nots -/
theorem oc_46 (hN : 4000 ≤ N) (hT : T ≤ 300) (hT2 : ∀ j, kd B n (stk B n j) ≠ 48 → j < T) {K : Nat} (hK : K ≤ 8) (hS : OcR B n 0 T 19 (OkSu B n u 0 T N 1 K) (FlLv B n u 0 T N 1 5 K) (f_r_readSum N RO (nI K))) (h26 : ∀ i, i < K → kd B n (stk B n (j + i)) = 26) (hn : kd B n (stk B n (j + K)) ≠ 26) (hsz : sz ≤ stk B n j) {M1 : Mem} (hH : He B n T M1 (j + K) sz) (ck : CK M M1 sz) (h5 : M.1 103 5 = nI 12) : Oc B n 0 T 20 (OkQ B n u T N 3 0 j) (QFl B n u T N 3 0 j) M j sz (f_r_readAsk_46 N RO (nI K) M1) := by
  have h51 : M1.1 103 5 = nI (12 + 0) := (ck.2.2.2.1 5 (by omega) (by omega) (by omega) (by omega)).trans h5
  unfold f_r_readAsk_46
  rcases hS M1 (j + K) sz hH h51 with ⟨M2, f, jf, b1, b2, b3⟩ | ⟨M2, j1, sz1, V, b1, b2, b3, b4, b5, b6, b7, b8, b9⟩
  · left
    obtain ⟨M3, e3, g3⟩ := b2.fail 1
    obtain ⟨M4, e4, g4⟩ := g3.ask107 (N := N) (RO := RO) N K 0 M3 g3 hK (by omega) (by omega)
    refine ⟨M4, f, jf, ?_, g4, q_lowF hN hT2 K hK h26 (qf_up (q_fl hn b3))⟩
    rw [b1, Option.bind_some, b2.t49, if_pos (show f_w_within 49 34 37 M2 = 0 from rfl), if_neg (show ¬ (49 : Int32) = 46 by decide), if_neg (show ¬ (49 : Int32) = 47 by decide), e3, Option.bind_some]
    exact e4
  · rw [b1, Option.bind_some]
    have i46 := b2.is (k := 46) (by decide)
    have i47 := b2.is (k := 47) (by decide)
    have kl := kd_lt B n (stk B n j1)
    have wc := w_cm (kd B n (stk B n j1)) (by omega)
    by_cases hk : (34 ≤ kd B n (stk B n j1) ∧ kd B n (stk B n j1) ≤ 37) ∨ kd B n (stk B n j1) = 46 ∨ kd B n (stk B n j1) = 47
    · have X : (if (f_w_within (gi M2 103 7) (34 : Int32) (37 : Int32) M2) = (0 : Int32) then (if (gi M2 103 7) = (46 : Int32) then Option.bind (f_r_advance M2) fun q4 => Option.bind (f_r_readSum N RO (nI K) q4) fun q5 => Option.bind (f_p_put (gi M2 103 7) (0 : Int32) q5) fun q6 => f_r_readAsk_107 N RO N (nI K) (0 : Int32) q6 else (if (gi M2 103 7) = (47 : Int32) then Option.bind (f_r_advance M2) fun q7 => Option.bind (f_r_readSum N RO (nI K) q7) fun q8 => Option.bind (f_p_put (gi M2 103 7) (0 : Int32) q8) fun q9 => f_r_readAsk_107 N RO N (nI K) (0 : Int32) q9 else Option.bind (f_r_fail (1 : Int32) M2) fun q10 => f_r_readAsk_107 N RO N (nI K) (0 : Int32) q10)) else Option.bind (f_r_advance M2) fun q11 => Option.bind (f_r_readSum N RO (nI K) q11) fun q12 => Option.bind (f_p_put (gi M2 103 7) (0 : Int32) q12) fun q13 => f_r_readAsk_107 N RO N (nI K) (0 : Int32) q13) = Option.bind (f_r_advance M2) fun q4 => Option.bind (f_r_readSum N RO (nI K) q4) fun q5 => Option.bind (f_p_put (nI (kd B n (stk B n j1))) (0 : Int32) q5) fun q6 => f_r_readAsk_107 N RO N (nI K) (0 : Int32) q6 := by
        rw [b2.t7]
        by_cases a : 34 ≤ kd B n (stk B n j1) ∧ kd B n (stk B n j1) ≤ 37
        · rw [if_neg (show ¬ f_w_within (nI (kd B n (stk B n j1))) 34 37 M2 = 0 from wc.mpr a)]
        · rw [if_pos (show f_w_within (nI (kd B n (stk B n j1))) 34 37 M2 = 0 from Decidable.byContradiction (fun e => a (wc.mp e)))]
          by_cases c : kd B n (stk B n j1) = 46
          · rw [if_pos (show nI (kd B n (stk B n j1)) = (46 : Int32) by rw [c]; rfl)]
          · rw [if_neg (show ¬ nI (kd B n (stk B n j1)) = (46 : Int32) from fun e => c ((nI_eq (b := 46) (by omega) (by decide)).mp e)), if_pos (show nI (kd B n (stk B n j1)) = (47 : Int32) by rw [show kd B n (stk B n j1) = 47 by omega]; rfl)]
      rw [X]
      obtain ⟨k, ek⟩ : ∃ k, kd B n (stk B n j1) = k := ⟨_, rfl⟩
      rw [ek] at hk ⊢
      obtain ⟨a1, a2⟩ := b2.adv (hT2 j1 (by omega))
      have up := stk_up hT2 (j := j1) (by omega)
      have ck2 : CK M2 (adM B n M2 j1) sz1 := CK.ad
      have s1 := b6.1
      rw [a1, Option.bind_some]
      rcases hS (adM B n M2 j1) (j1 + 1) sz1 a2 ((ck2.2.2.2.1 5 (by omega) (by omega) (by omega) (by omega)).trans ((b5.2.2.2.1 5 (by omega) (by omega) (by omega) (by omega)).trans h51)) with ⟨M3, f, jf, c1, c2, c3⟩ | ⟨M3, j2, sz2, V2, c1, c2, c3, c4, c5, c6, c7, c8, c9⟩
      · left
        obtain ⟨M4, e4, g4⟩ := c2.put (nI k) 0
        obtain ⟨M5, e5, g5⟩ := g4.ask107 (N := N) (RO := RO) N K 0 M4 g4 hK (by omega) (by omega)
        refine ⟨M5, f, jf, ?_, g5, q_lowF hN hT2 K hK h26 (qf_up (q_cmpF hN hT2 hn b8 hk ek c3))⟩
        rw [c1, Option.bind_some, e4, Option.bind_some]
        exact e5
      · have s2 := c6.1
        have s9 := b2.2.2.2.2.2.2.2.2
        obtain ⟨p1, p2⟩ := c2.put (k := k) (v := 0) (by omega) (by omega) (by omega)
        have p1' : f_p_put (nI k) (0 : Int32) M3 = some (puM M3 sz2 k 0) := p1
        rw [c1, Option.bind_some, p1', Option.bind_some]
        have c13 : CK M2 (puM M3 sz2 k 0) sz1 := (ck2.tr c5 (Nat.le_refl _)).tr CK.pu (by omega)
        have vt : VT (fun e => f_l_compared (nI k) (V e) (V2 e) M0) := VT.cmp hk
        refine oc_107 (u := u) (RO := RO) hN hT hT2 (K := K) (j' := j2) hK h26 hsz (by omega) c9 K 0 N (puM M3 sz2 k 0) (sz2 + 1) _ (by omega) (by omega) p2 ((ck.tr b5 (Nat.le_refl _)).tr c13 (by omega)) ?_ (VOk.cmp vt b7 c7) vt (q_up (q_cmp hN hT hT2 hn b8 hk ek c8)) (by omega)
        exact Cod.bin (b6.cong (fun i _ i2 => c13.1 i i2)) (c6.cong (fun i _ i2 => (CK.pu (M := M3) (sz := sz2) (k := k) (v := 0)).1 i i2)) (by omega) (by omega) (by omega) (fun x y => f_l_compared (nI k) x y M0) (by omega) puM_c (fun M p hp h => op_cmp2 (by omega) M p hp h) (by omega) (by omega) (by omega)
    · left
      obtain ⟨M3, e3, g3⟩ := b2.fail (f := 1) (by omega) (by omega)
      have e3' : f_r_fail (1 : Int32) M2 = some M3 := e3
      obtain ⟨M4, e4, g4⟩ := g3.ask107 (N := N) (RO := RO) N K 0 M3 g3 hK (by omega) (by omega)
      refine ⟨M4, 1, j1, ?_, g4, q_lowF hN hT2 K hK h26 (qf_up (q_bad hN hn b8 hk b9))⟩
      rw [if_pos (show f_w_within (gi M2 103 7) 34 37 M2 = 0 by rw [b2.t7]; exact Decidable.byContradiction (fun e => hk (Or.inl (wc.mp e)))), if_neg (show ¬ gi M2 103 7 = (46 : Int32) from fun e => by have := i46.mp e; omega), if_neg (show ¬ gi M2 103 7 = (47 : Int32) from fun e => by have := i47.mp e; omega), e3', Option.bind_some]
      exact e4
theorem oc_ask (hN : 4000 ≤ N) (hT : T ≤ 300) (hT2 : ∀ j, kd B n (stk B n j) ≠ 48 → j < T) (hRB : ∀ f p, RoB RO f p) (hS : ∀ d, d ≤ 8 → OcR B n 0 T 19 (OkSu B n u 0 T N 1 d) (FlLv B n u 0 T N 1 5 d) (f_r_readSum N RO (nI d))) : OcR B n 0 T 20 (fun j => OkQ B n u T N 3 0 j) (fun j => QFl B n u T N 3 0 j) (f_r_readAsk N RO) := by
  intro M j sz hH h5
  have hsz := hH.2.2.2.2.2.2.2.2
  have go : ∀ (m c : Nat) (M1 : Mem), c ≤ 8 → 11 ≤ m + c → He B n T M1 (j + c) sz → CK M M1 sz → (∀ i, i < c → kd B n (stk B n (j + i)) = 26) → Oc B n 0 T 20 (OkQ B n u T N 3 0 j) (QFl B n u T N 3 0 j) M j sz (f_r_readAsk_4 N RO m (nI c) (nI c) M1) := by
    intro m
    induction m with
    | zero => intro c M1 h1 h2; omega
    | succ m ih =>
      intro c M1 h1 h2 h3 h4 h6
      obtain ⟨m', rfl⟩ : ∃ m', m = m' + 1 := ⟨m - 1, by omega⟩
      have i26 := h3.is (k := 26) (by decide)
      rw [f_r_readAsk_4, if_neg (show ¬ (8 : Int32) < nI c from nI_nlt (a := 8) h1 (by decide))]
      by_cases a : kd B n (stk B n (j + c)) = 26
      · rw [if_pos (show gi M1 103 7 = (26 : Int32) from i26.mpr a)]
        by_cases c8 : c < 8
        · obtain ⟨a1, a2⟩ := h3.adv (hT2 _ (by omega))
          rw [if_pos (show nI c < (8 : Int32) from nI_lt (b := 8) c8 (by decide)), a1, Option.bind_some, nI_1]
          exact ih (c + 1) _ (by omega) (by omega) a2 (h4.tr (CK.ad (sz := sz)) (Nat.le_refl _)) (fun i hi => by
            by_cases z : i = c
            · rw [z]; exact a
            · exact h6 i (by omega))
        · left
          have e8 : c = 8 := by omega
          subst e8
          obtain ⟨M2, e2, g2⟩ := h3.fail (f := 3) (by omega) (by omega)
          have e2' : f_r_fail (3 : Int32) M1 = some M2 := e2
          obtain ⟨M3, e3, g3⟩ := g2.ask4 (N := N) hN (hRB _ _) (k := 8) (by omega) m' (nI 8 + 1)
          refine ⟨M3, 3, j + 8, ?_, g3, q_lowF hN hT2 8 (by omega) h6 (q_deep hN a)⟩
          rw [if_neg (show ¬ nI 8 < (8 : Int32) by decide), e2', Option.bind_some]
          exact e3
      · rw [if_neg (show ¬ gi M1 103 7 = (26 : Int32) from fun e => a (i26.mp e))]
        exact oc_46 hN hT hT2 h1 (hS c h1) h6 a hsz h3 h4 h5
  unfold f_r_readAsk
  exact go N 0 M (by omega) (by omega) hH CK.rf (fun i hi => by omega)
end ASK
