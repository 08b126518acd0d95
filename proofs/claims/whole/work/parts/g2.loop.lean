/-! A text is read: the loop, and how it begins. -/
section LOOP
variable {B : Nat → Nat} {n u T N : Nat}
theorem rd_loop (hN : 4000 ≤ N) (hT : T ≤ 300) (hT2 : ∀ j, kd B n (stk B n j) ≠ 48 → j < T) : ∀ (m c : Nat) (M : Mem) (j sz : Nat) (a : Nat → Nat → Nat) (V : Nat → (Nat → Int32) → Int32), 27 ≤ m + c → CsI B n T M a V c j sz → (∃ M' f jf, f_r_read_52 N m (nI c) M = some M' ∧ Br M' f (nI (stk B n jf)) ∧ ∀ mr Mr w, 27 ≤ mr + c → RsI B n u T Mr a V c j w → ∃ Mr', f_m_readText_43 N mr Mr = some (nI f, Mr') ∧ Mr'.1 129 8 = nI (stk B n jf) ∧ Kr u Mr Mr') ∨ (∃ M' c' j' sz' a' V', f_r_read_52 N m (nI c) M = some M' ∧ CsI B n T M' a' V' c' j' sz' ∧ ∀ mr Mr w, 27 ≤ mr + c → RsI B n u T Mr a V c j w → ∃ Mr' w', f_m_readText_43 N mr Mr = some (0, Mr') ∧ RsI B n u T Mr' a' V' c' j' w' ∧ Kr u Mr Mr') := by
  intro m
  induction m with
  | zero =>
    intro c M j sz a V h1 h2
    have := h2.2.1.2
    omega
  | succ m ih =>
    intro c M j sz a V h1 h2
    have c24 := h2.2.1.2
    have hH := h2.1
    have kl := kd_lt B n (stk B n j)
    rw [f_r_read_52, if_neg (show ¬ (24 : Int32) < nI c from nI_nlt (a := 24) c24 (by decide))]
    by_cases k48 : kd B n (stk B n j) = 48
    · right
      refine ⟨M, c, j, sz, a, V, by rw [if_pos (show gi M 103 7 = (48 : Int32) from (hH.is (k := 48) (by decide)).mpr k48)], h2, fun mr Mr w hm hR => ?_⟩
      obtain ⟨mr', rfl⟩ : ∃ k, mr = k + 1 := ⟨mr - 1, by omega⟩
      refine ⟨Mr, w, ?_, hR, Kr.rf⟩
      rw [f_m_readText_43, if_pos (show gi Mr 129 9 = (0 : Int32) from (hR.1.2.1.2.2.sg (k := 48) (by omega) (by omega)).mpr k48)]
    · rw [if_neg (show ¬ gi M 103 7 = (48 : Int32) from fun e => k48 ((hH.is (k := 48) (by decide)).mp e)), if_neg (show ¬ gi M 103 7 = (49 : Int32) from fun e => by have := (hH.is (k := 49) (by decide)).mp e; omega)]
      have rs : ∀ mr Mr w, RsI B n u T Mr a V c j w → f_m_readText_43 N (mr + 1) Mr = Option.bind (f_m_clause N Mr) fun q7 => (if q7.1 = (0 : Int32) then f_m_readText_43 N mr q7.2 else some (q7.1, q7.2)) := fun mr Mr w hR => by
        rw [f_m_readText_43, if_neg (show ¬ gi Mr 129 9 = (0 : Int32) from fun e => k48 ((hR.1.2.1.2.2.sg (k := 48) (by omega) (by omega)).mp e))]
      rcases cl_step (u := u) (N := N) hN hT hT2 h2 with ⟨M', f, jf, e1, b1, cf⟩ | ⟨M', j', sz', a', V', e1, i1, ok⟩
      · left
        obtain ⟨m', rfl⟩ : ∃ k, m = k + 1 := ⟨m - 1, by omega⟩
        refine ⟨M', f, jf, ?_, b1, fun mr Mr w hm hR => ?_⟩
        · rw [e1, Option.bind_some, f_r_read_52, b1.t49, if_neg (show ¬ (49 : Int32) = 48 by decide), if_pos (show (49 : Int32) = 49 from rfl)]
          split <;> rfl
        · obtain ⟨mr', rfl⟩ : ∃ k, mr = k + 1 := ⟨mr - 1, by omega⟩
          obtain ⟨Mr', q1, q2, q3⟩ := cf Mr w hR
          refine ⟨Mr', ?_, q2, q3⟩
          have f1 := b1.1
          have f2 := b1.2.1
          rw [rs mr' Mr w hR, q1, Option.bind_some, if_neg (show ¬ nI f = (0 : Int32) from fun e => by have := (nI_eq (b := 0) (by omega) (by decide)).mp e; omega)]
      · have nx : f_r_read_52 N m (nI c + 1) M' = f_r_read_52 N m (nI (c + 1)) M' := by rw [nI_1]
        rcases ih (c + 1) M' j' sz' a' V' (by omega) i1 with ⟨M2, f, jf, e2, b2, r2⟩ | ⟨M2, c2, j2, sz2, a2, V2, e2, i2, r2⟩
        · left
          refine ⟨M2, f, jf, by rw [e1, Option.bind_some, nx, e2], b2, fun mr Mr w hm hR => ?_⟩
          obtain ⟨mr', rfl⟩ : ∃ k, mr = k + 1 := ⟨mr - 1, by omega⟩
          obtain ⟨Mr', w', q1, q2, q3⟩ := ok Mr w hR
          obtain ⟨Mr2, q4, q5, q6⟩ := r2 mr' Mr' w' (by omega) q2
          refine ⟨Mr2, ?_, q5, q3.tr q6⟩
          rw [rs mr' Mr w hR, q1, Option.bind_some, if_pos rfl]
          exact q4
        · right
          refine ⟨M2, c2, j2, sz2, a2, V2, by rw [e1, Option.bind_some, nx, e2], i2, fun mr Mr w hm hR => ?_⟩
          obtain ⟨mr', rfl⟩ : ∃ k, mr = k + 1 := ⟨mr - 1, by omega⟩
          obtain ⟨Mr', w', q1, q2, q3⟩ := ok Mr w hR
          obtain ⟨Mr2, w2, q4, q5, q6⟩ := r2 mr' Mr' w' (by omega) q2
          refine ⟨Mr2, w2, ?_, q5, q3.tr q6⟩
          rw [rs mr' Mr w hR, q1, Option.bind_some, if_pos rfl]
          exact q4
theorem fill3 (hN : 4000 ≤ N) (M : Mem) : f_k_fill0_107 N (-1) M = some (si (si (si M 107 0 (-1)) 107 1 (-1)) 107 2 (-1)) := by
  unfold f_k_fill0_107
  obtain ⟨k, hk⟩ : ∃ k, N = k + 4 := ⟨N - 4, by omega⟩
  have : ∀ F, F = k + 1 + 1 + 1 + 1 → f_k_fill0_107_5 N F (-1) 0 3 M = some (si (si (si M 107 0 (-1)) 107 1 (-1)) 107 2 (-1)) := by
    intro F hF
    rw [hF, f_k_fill0_107_5, if_neg (show ¬ (3 : Int32) ≤ 0 by decide), if_pos (show am_in 0 3 = true by decide), Option.bind_some, f_k_fill0_107_5, if_neg (show ¬ (3 : Int32) ≤ 0 + 1 by decide), if_pos (show am_in (0 + 1) 3 = true by decide), Option.bind_some, f_k_fill0_107_5, if_neg (show ¬ (3 : Int32) ≤ 0 + 1 + 1 by decide), if_pos (show am_in (0 + 1 + 1) 3 = true by decide), Option.bind_some, f_k_fill0_107_5, if_pos (show (3 : Int32) ≤ 0 + 1 + 1 + 1 by decide)]
    rfl
  exact this N hk
theorem stk_T {T : Nat} (h : stk B n T = n) : ∀ i, stk B n (T + i) = n := by
  intro i
  induction i with
  | zero => exact h
  | succ i ih =>
    show wsp B n (te B n (stk B n (T + i))) = n
    have : te B n n = n := by unfold te; rw [if_pos (Nat.le_refl _)]
    rw [ih, this]
    exact skp_ge (Nat.le_refl _)
/-- how the class begins -/
theorem c_read (hN : 4000 ≤ N) {M : Mem} (h : LxC M B n) (a : Nat → Nat → Nat) (V : Nat → (Nat → Int32) → Int32) : ∃ M0 T, T ≤ 300 ∧ (∀ j, kd B n (stk B n j) ≠ 48 → j < T) ∧ f_r_read N M = f_r_read_52 N N (nI 0) M0 ∧ CsI B n T M0 a V 0 0 0 ∧ (∀ k, k ∉ [100, 102, 103, 104, 105, 106, 107] → M0.1 k = M.1 k) ∧ M0.1 103 0 = 1 ∧ M0.1 103 2 = -1 := by
  obtain ⟨Q, hQ⟩ : ∃ Q, Q = si (si (si (si (si (si (si (si M 104 3 0) 104 4 0) 107 0 (-1)) 107 1 (-1)) 107 2 (-1)) 103 0 1) 103 1 0) 103 2 (-1) := ⟨_, rfl⟩
  have oQ : ∀ k, k ≠ 103 → k ≠ 104 → k ≠ 107 → Q.1 k = M.1 k := fun k q1 q2 q3 => by
    rw [hQ, si_1, if_neg q1, si_1, if_neg q1, si_1, if_neg q1, si_1, if_neg q3, si_1, if_neg q3, si_1, if_neg q3, si_1, if_neg q2, si_1, if_neg q2]
  have lx : LxC Q B n := ⟨h.1, by rw [oQ 100 (by decide) (by decide) (by decide)]; exact h.2.1, fun i hi => ⟨(h.2.2 i hi).1, by rw [oQ 101 (by decide) (by decide) (by decide)]; exact (h.2.2 i hi).2⟩⟩
  obtain ⟨M', T, e1, t1, t2, t3, t4, t5, t6⟩ := c_cut lx hN
  have n300 := h.1
  have s0 : stk B n 0 ≤ 300 := by have := stk_n (B := B) (n := n) 0; omega
  have o' : ∀ k i, k ≠ 100 → k ≠ 102 → M'.1 k i = Q.1 k i := fun k i q1 q2 => t5 k i (by omega) q2
  have g7 : gi (si M' 103 6 0) 102 0 &&& (63 : Int32) = nI (kd B n (stk B n 0)) := by
    have : gi (si M' 103 6 0) 102 0 = nI (tkv B n (stk B n 0)) := t4 0 (by omega)
    rw [this, tk_kd s0]
  refine ⟨si (si M' 103 6 0) 103 7 (nI (kd B n (stk B n 0))), T, by omega, fun j hj => ?_, ?_, ⟨⟨n300, t1, fun i hi => ?_, by omega, ?_, ?_, ?_, ?_, by omega⟩, ⟨?_, by omega⟩, fun k hk => by omega, fun s hs => Or.inl ⟨?_, fun k hk => by omega⟩⟩, fun k hk => ?_, ?_, ?_⟩
  · refine Nat.lt_of_not_le (fun e => hj ?_)
    obtain ⟨i, rfl⟩ : ∃ i, j = T + i := ⟨j - T, by omega⟩
    rw [stk_T t2 i]
    unfold kd
    rw [if_pos (Nat.le_refl _)]
  · unfold f_r_read f_p_clear
    have e1' : f_a_cut N (si (si (si (si (si (si (si (si M 104 3 0) 104 4 0) 107 0 (-1)) 107 1 (-1)) 107 2 (-1)) 103 0 1) 103 1 0) 103 2 (-1)) = some M' := by rw [← hQ]; exact e1
    rw [Option.bind_some, Option.bind_some, fill3 hN, Option.bind_some, Option.bind_some, Option.bind_some, Option.bind_some, Option.bind_some, e1', Option.bind_some, Option.bind_some, Option.bind_some, g7]
    rfl
  · rw [si_at, if_neg (by omega), si_at, if_neg (by omega)]
    exact t4 i hi
  · rw [si_at, if_neg (by omega), si_at, if_neg (by omega), o' _ _ (by omega) (by omega), hQ, si_at, if_neg (by omega), si_at, if_pos ⟨rfl, rfl⟩]
  · rw [si_at, if_neg (by omega), si_at, if_pos ⟨rfl, rfl⟩]
    rfl
  · rw [si_at, if_pos ⟨rfl, rfl⟩]
  · rw [si_at, if_neg (by omega), si_at, if_neg (by omega), o' _ _ (by omega) (by omega), hQ, si_at, if_neg (by omega), si_at, if_neg (by omega), si_at, if_neg (by omega), si_at, if_neg (by omega), si_at, if_neg (by omega), si_at, if_neg (by omega), si_at, if_neg (by omega), si_at, if_pos ⟨rfl, rfl⟩]
    rfl
  · rw [si_at, if_neg (by omega), si_at, if_neg (by omega), o' _ _ (by omega) (by omega), hQ, si_at, if_neg (by omega), si_at, if_neg (by omega), si_at, if_neg (by omega), si_at, if_neg (by omega), si_at, if_neg (by omega), si_at, if_neg (by omega), si_at, if_pos ⟨rfl, rfl⟩]
    rfl
  · rw [si_at, if_neg (by omega), si_at, if_neg (by omega), o' _ _ (by omega) (by omega), hQ, si_at, if_neg (by omega), si_at, if_neg (by omega), si_at, if_neg (by omega), si_at, si_at, si_at]
    by_cases z2 : s = 2
    · rw [if_pos ⟨rfl, z2⟩]
    · rw [if_neg (by omega)]
      by_cases z1 : s = 1
      · rw [if_pos ⟨rfl, z1⟩]
      · rw [if_neg (by omega), if_pos ⟨rfl, by omega⟩]
  · have k3 : k ≠ 103 := fun e => hk (by rw [e]; decide)
    have k4 : k ≠ 104 := fun e => hk (by rw [e]; decide)
    have k7 : k ≠ 107 := fun e => hk (by rw [e]; decide)
    have k0 : k ≠ 100 := fun e => hk (by rw [e]; decide)
    have k2 : k ≠ 102 := fun e => hk (by rw [e]; decide)
    rw [si_1, if_neg k3, si_1, if_neg k3]
    funext i
    rw [o' k i k0 k2, oQ k k3 k4 k7]
  · rw [si_at, if_neg (by omega), si_at, if_neg (by omega), o' _ _ (by omega) (by omega), hQ, si_at, if_neg (by omega), si_at, if_neg (by omega), si_at, if_pos ⟨rfl, rfl⟩]
  · rw [si_at, if_neg (by omega), si_at, if_neg (by omega), o' _ _ (by omega) (by omega), hQ, si_at, if_pos ⟨rfl, rfl⟩]
/-- how the reference begins -/
theorem r_read (hN : 4000 ≤ N) {M : Mem} (h : RTB M B n) (hu : u < 4) (h5 : M.1 130 5 = nI u) (a : Nat → Nat → Nat) (V : Nat → (Nat → Int32) → Int32) : ∃ M0, f_m_readText N M = f_m_readText_43 N N M0 ∧ RsI B n u T M0 a V 0 0 0 ∧ Kr u M M0 := by
  obtain ⟨Q, hQ⟩ : ∃ Q, Q = si (si (si (si (si M 129 12 (nI (705 * u))) 132 (705 * u) 0) 129 13 0) 129 24 0) 129 7 0 := ⟨_, rfl⟩
  have rt : RTB Q B n := by
    refine ⟨h.1, ?_, fun i hi => ⟨(h.2.2 i hi).1, ?_⟩⟩
    · rw [hQ, si_at, if_neg (by omega), si_at, if_neg (by omega), si_at, if_neg (by omega), si_at, if_neg (by omega), si_at, if_neg (by omega)]
      exact h.2.1
    · rw [hQ, si_at, if_neg (by omega), si_at, if_neg (by omega), si_at, if_neg (by omega), si_at, if_neg (by omega), si_at, if_neg (by omega)]
      exact (h.2.2 i hi).2
  obtain ⟨M', e1, e2, e3, e4, e5⟩ := r_next rt hN (a := 0) (Nat.zero_le _) (by rw [hQ, si_at, if_pos ⟨rfl, rfl⟩]; rfl)
  have kq : Kr u M Q := by
    rw [hQ]
    exact ((((Kr.f _ (by omega)).tr (Kr.t _ (Nat.le_refl _))).tr (Kr.f _ (by omega))).tr (Kr.f _ (by omega))).tr (Kr.f _ (by omega))
  refine ⟨M', ?_, ⟨⟨rt.ns e2, ⟨e3, e4, e5⟩, ?_, ?_⟩, ⟨?_, by omega, Nat.le_refl _, by omega, hu⟩, ⟨0, by omega, ?_, fun s hs => ⟨fun e => absurd e (by rw [Nat.zero_testBit]; decide), fun ⟨k, k1, _⟩ => by omega⟩⟩, fun k hk => by omega⟩, kq.tr e2.kr⟩
  · unfold f_m_readText
    have e1' : f_m_nextToken N (si (si (si (si (si M 129 12 (nI (705 * u))) 132 (705 * u) 0) 129 13 0) 129 24 0) 129 7 0) = some M' := by rw [← hQ]; exact e1
    rw [show gi M 130 5 = nI u from h5, ix705', Option.bind_some, show gi (si M 129 12 (nI (705 * u))) 129 12 = nI (705 * u) by show (si M 129 12 (nI (705 * u))).1 129 12 = _; rw [si_at, if_pos ⟨rfl, rfl⟩], if_pos (am_in_nI (by omega) (by decide)), nI_clamp (by omega), Option.bind_some, Option.bind_some, Option.bind_some, Option.bind_some, e1', Option.bind_some]
  · rw [e2.1 _ _ (by omega), hQ, si_at, if_neg (by omega), si_at, if_neg (by omega), si_at, if_neg (by omega), si_at, if_neg (by omega), si_at, if_pos ⟨rfl, rfl⟩]
  · rw [e2.1 _ _ (by omega), hQ, si_at, if_neg (by omega), si_at, if_neg (by omega), si_at, if_pos ⟨rfl, rfl⟩]
    rfl
  · rw [e2.1 _ _ (by omega), hQ, si_at, if_neg (by omega), si_at, if_neg (by omega), si_at, if_neg (by omega), si_at, if_pos ⟨rfl, rfl⟩]
    rfl
  · rw [e2.1 _ _ (by omega), hQ, si_at, if_neg (by omega), si_at, if_pos ⟨rfl, rfl⟩]
    rfl
end LOOP
